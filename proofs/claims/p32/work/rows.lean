section
-- ===== PART A: goes FIRST, ahead of the names: the tables' words, and 'selects' of the private methods out of them =====
/-- a private method of a class that the tables say can be made, by its rows of tables_1 -/
def lw_okq (q : MethodName × Nat) : Prop := (q.1.cls ≠ "java/lang/invoke/MethodHandle" ∧ q.1.cls ≠ "java/lang/invoke/VarHandle") ∧ Cond.instantiable q.1.cls q.2 ∈ tables_1 ∧ Cond.privateMethod q.1 ∈ tables_1 ∧ Cond.instanceMethod q.1 ∈ tables_1
theorem lw_p0 : lw_okq (⟨"java/lang/Throwable", "fillInStackTrace", "(I)Ljava/lang/Throwable;"⟩, 6) := ⟨⟨by decide +kernel, by decide +kernel⟩, List.mem_of_getElem? (i := 194) (by decide +kernel), List.mem_of_getElem? (i := 192) (by decide +kernel), List.mem_of_getElem? (i := 193) (by decide +kernel)⟩
theorem lw_p1 : lw_okq (⟨"Formationist", "drawNet", "()V"⟩, 18) := ⟨⟨by decide +kernel, by decide +kernel⟩, List.mem_of_getElem? (i := 26) (by decide +kernel), List.mem_of_getElem? (i := 224) (by decide +kernel), List.mem_of_getElem? (i := 225) (by decide +kernel)⟩
theorem lw_p2 : lw_okq (⟨"Formationist$Net", "clear", "()V"⟩, 1) := ⟨⟨by decide +kernel, by decide +kernel⟩, List.mem_of_getElem? (i := 36) (by decide +kernel), List.mem_of_getElem? (i := 228) (by decide +kernel), List.mem_of_getElem? (i := 229) (by decide +kernel)⟩
theorem lw_p3 : lw_okq (⟨"Formationist", "hears", "(II)Z"⟩, 18) := ⟨⟨by decide +kernel, by decide +kernel⟩, List.mem_of_getElem? (i := 26) (by decide +kernel), List.mem_of_getElem? (i := 233) (by decide +kernel), List.mem_of_getElem? (i := 234) (by decide +kernel)⟩
theorem lw_p4 : lw_okq (⟨"Formationist$Net", "joins", "(II)Z"⟩, 1) := ⟨⟨by decide +kernel, by decide +kernel⟩, List.mem_of_getElem? (i := 36) (by decide +kernel), List.mem_of_getElem? (i := 237) (by decide +kernel), List.mem_of_getElem? (i := 238) (by decide +kernel)⟩
theorem lw_p5 : lw_okq (⟨"Formationist", "squareBetween", "(II)I"⟩, 18) := ⟨⟨by decide +kernel, by decide +kernel⟩, List.mem_of_getElem? (i := 26) (by decide +kernel), List.mem_of_getElem? (i := 244) (by decide +kernel), List.mem_of_getElem? (i := 245) (by decide +kernel)⟩
theorem lw_p6 : lw_okq (⟨"Formationist$Net", "join", "(II)V"⟩, 1) := ⟨⟨by decide +kernel, by decide +kernel⟩, List.mem_of_getElem? (i := 36) (by decide +kernel), List.mem_of_getElem? (i := 248) (by decide +kernel), List.mem_of_getElem? (i := 249) (by decide +kernel)⟩
theorem lw_p7 : lw_okq (⟨"Formationist", "exchangeEstimates", "()V"⟩, 18) := ⟨⟨by decide +kernel, by decide +kernel⟩, List.mem_of_getElem? (i := 26) (by decide +kernel), List.mem_of_getElem? (i := 255) (by decide +kernel), List.mem_of_getElem? (i := 256) (by decide +kernel)⟩
theorem lw_p8 : lw_okq (⟨"Formationist", "flowBetween", "(II)I"⟩, 18) := ⟨⟨by decide +kernel, by decide +kernel⟩, List.mem_of_getElem? (i := 26) (by decide +kernel), List.mem_of_getElem? (i := 259) (by decide +kernel), List.mem_of_getElem? (i := 260) (by decide +kernel)⟩
theorem lw_p9 : lw_okq (⟨"Formationist$Net", "degreeOf", "(I)I"⟩, 1) := ⟨⟨by decide +kernel, by decide +kernel⟩, List.mem_of_getElem? (i := 36) (by decide +kernel), List.mem_of_getElem? (i := 263) (by decide +kernel), List.mem_of_getElem? (i := 264) (by decide +kernel)⟩
theorem lw_p10 : lw_okq (⟨"Formationist", "addChanges", "([I[I)V"⟩, 18) := ⟨⟨by decide +kernel, by decide +kernel⟩, List.mem_of_getElem? (i := 26) (by decide +kernel), List.mem_of_getElem? (i := 276) (by decide +kernel), List.mem_of_getElem? (i := 277) (by decide +kernel)⟩
theorem lw_p11 : lw_okq (⟨"Formationist", "spanOfEstimates", "()I"⟩, 18) := ⟨⟨by decide +kernel, by decide +kernel⟩, List.mem_of_getElem? (i := 26) (by decide +kernel), List.mem_of_getElem? (i := 280) (by decide +kernel), List.mem_of_getElem? (i := 281) (by decide +kernel)⟩
theorem lw_p12 : lw_okq (⟨"Formationist", "handHalves", "()I"⟩, 18) := ⟨⟨by decide +kernel, by decide +kernel⟩, List.mem_of_getElem? (i := 26) (by decide +kernel), List.mem_of_getElem? (i := 291) (by decide +kernel), List.mem_of_getElem? (i := 292) (by decide +kernel)⟩
theorem lw_p13 : lw_okq (⟨"Formationist", "nextReceiver", "(I)I"⟩, 18) := ⟨⟨by decide +kernel, by decide +kernel⟩, List.mem_of_getElem? (i := 26) (by decide +kernel), List.mem_of_getElem? (i := 295) (by decide +kernel), List.mem_of_getElem? (i := 296) (by decide +kernel)⟩
theorem lw_p14 : lw_okq (⟨"Formationist", "upSet", "()I"⟩, 18) := ⟨⟨by decide +kernel, by decide +kernel⟩, List.mem_of_getElem? (i := 26) (by decide +kernel), List.mem_of_getElem? (i := 306) (by decide +kernel), List.mem_of_getElem? (i := 307) (by decide +kernel)⟩
theorem lw_p15 : lw_okq (⟨"Formationist$TreeMatrix", "treesOf", "(LFormationist$Net;I)J"⟩, 1) := ⟨⟨by decide +kernel, by decide +kernel⟩, List.mem_of_getElem? (i := 74) (by decide +kernel), List.mem_of_getElem? (i := 311) (by decide +kernel), List.mem_of_getElem? (i := 312) (by decide +kernel)⟩
def lw_privs_1 : List (MethodName × Nat) := [(⟨"java/lang/Throwable", "fillInStackTrace", "(I)Ljava/lang/Throwable;"⟩, 6), (⟨"Formationist", "drawNet", "()V"⟩, 18), (⟨"Formationist$Net", "clear", "()V"⟩, 1), (⟨"Formationist", "hears", "(II)Z"⟩, 18), (⟨"Formationist$Net", "joins", "(II)Z"⟩, 1), (⟨"Formationist", "squareBetween", "(II)I"⟩, 18), (⟨"Formationist$Net", "join", "(II)V"⟩, 1), (⟨"Formationist", "exchangeEstimates", "()V"⟩, 18), (⟨"Formationist", "flowBetween", "(II)I"⟩, 18), (⟨"Formationist$Net", "degreeOf", "(I)I"⟩, 1), (⟨"Formationist", "addChanges", "([I[I)V"⟩, 18), (⟨"Formationist", "spanOfEstimates", "()I"⟩, 18), (⟨"Formationist", "handHalves", "()I"⟩, 18), (⟨"Formationist", "nextReceiver", "(I)I"⟩, 18), (⟨"Formationist", "upSet", "()I"⟩, 18), (⟨"Formationist$TreeMatrix", "treesOf", "(LFormationist$Net;I)J"⟩, 1)]
theorem lw_r1 : ∀ q ∈ lw_privs_1, lw_okq q := List.forall_mem_cons.mpr ⟨lw_p0, List.forall_mem_cons.mpr ⟨lw_p1, List.forall_mem_cons.mpr ⟨lw_p2, List.forall_mem_cons.mpr ⟨lw_p3, List.forall_mem_cons.mpr ⟨lw_p4, List.forall_mem_cons.mpr ⟨lw_p5, List.forall_mem_cons.mpr ⟨lw_p6, List.forall_mem_cons.mpr ⟨lw_p7, List.forall_mem_cons.mpr ⟨lw_p8, List.forall_mem_cons.mpr ⟨lw_p9, List.forall_mem_cons.mpr ⟨lw_p10, List.forall_mem_cons.mpr ⟨lw_p11, List.forall_mem_cons.mpr ⟨lw_p12, List.forall_mem_cons.mpr ⟨lw_p13, List.forall_mem_cons.mpr ⟨lw_p14, List.forall_mem_cons.mpr ⟨lw_p15, fun _ h => absurd h List.not_mem_nil⟩⟩⟩⟩⟩⟩⟩⟩⟩⟩⟩⟩⟩⟩⟩⟩
theorem lw_p16 : lw_okq (⟨"Formationist$TreeMatrix", "fill", "(LFormationist$Net;I)I"⟩, 1) := ⟨⟨by decide +kernel, by decide +kernel⟩, List.mem_of_getElem? (i := 74) (by decide +kernel), List.mem_of_getElem? (i := 322) (by decide +kernel), List.mem_of_getElem? (i := 323) (by decide +kernel)⟩
theorem lw_p17 : lw_okq (⟨"Formationist$TreeMatrix", "determinant", "(I)J"⟩, 1) := ⟨⟨by decide +kernel, by decide +kernel⟩, List.mem_of_getElem? (i := 74) (by decide +kernel), List.mem_of_getElem? (i := 333) (by decide +kernel), List.mem_of_getElem? (i := 334) (by decide +kernel)⟩
theorem lw_p18 : lw_okq (⟨"Formationist", "countGroups", "()I"⟩, 18) := ⟨⟨by decide +kernel, by decide +kernel⟩, List.mem_of_getElem? (i := 26) (by decide +kernel), List.mem_of_getElem? (i := 342) (by decide +kernel), List.mem_of_getElem? (i := 343) (by decide +kernel)⟩
theorem lw_p19 : lw_okq (⟨"Formationist$Net", "groupOf", "(I)I"⟩, 1) := ⟨⟨by decide +kernel, by decide +kernel⟩, List.mem_of_getElem? (i := 36) (by decide +kernel), List.mem_of_getElem? (i := 347) (by decide +kernel), List.mem_of_getElem? (i := 348) (by decide +kernel)⟩
theorem lw_p20 : lw_okq (⟨"Formationist$PebbleGame", "rankOf", "(LFormationist$Net;)I"⟩, 3) := ⟨⟨by decide +kernel, by decide +kernel⟩, List.mem_of_getElem? (i := 48) (by decide +kernel), List.mem_of_getElem? (i := 351) (by decide +kernel), List.mem_of_getElem? (i := 352) (by decide +kernel)⟩
theorem lw_p21 : lw_okq (⟨"Formationist$PebbleGame", "gatherPebbles", "(II)Z"⟩, 3) := ⟨⟨by decide +kernel, by decide +kernel⟩, List.mem_of_getElem? (i := 48) (by decide +kernel), List.mem_of_getElem? (i := 357) (by decide +kernel), List.mem_of_getElem? (i := 358) (by decide +kernel)⟩
theorem lw_p22 : lw_okq (⟨"Formationist$PebbleGame", "fetchPebble", "(II)Z"⟩, 3) := ⟨⟨by decide +kernel, by decide +kernel⟩, List.mem_of_getElem? (i := 48) (by decide +kernel), List.mem_of_getElem? (i := 361) (by decide +kernel), List.mem_of_getElem? (i := 362) (by decide +kernel)⟩
theorem lw_p23 : lw_okq (⟨"Formationist$PebbleGame", "findPebble", "(II)I"⟩, 3) := ⟨⟨by decide +kernel, by decide +kernel⟩, List.mem_of_getElem? (i := 48) (by decide +kernel), List.mem_of_getElem? (i := 365) (by decide +kernel), List.mem_of_getElem? (i := 366) (by decide +kernel)⟩
theorem lw_p24 : lw_okq (⟨"Formationist$PebbleGame", "noteWay", "(II)V"⟩, 3) := ⟨⟨by decide +kernel, by decide +kernel⟩, List.mem_of_getElem? (i := 48) (by decide +kernel), List.mem_of_getElem? (i := 371) (by decide +kernel), List.mem_of_getElem? (i := 372) (by decide +kernel)⟩
theorem lw_p25 : lw_okq (⟨"Formationist$PebbleGame", "holderAmong", "(I)I"⟩, 3) := ⟨⟨by decide +kernel, by decide +kernel⟩, List.mem_of_getElem? (i := 48) (by decide +kernel), List.mem_of_getElem? (i := 375) (by decide +kernel), List.mem_of_getElem? (i := 376) (by decide +kernel)⟩
theorem lw_p26 : lw_okq (⟨"Formationist$PebbleGame", "turnArcs", "(I)V"⟩, 3) := ⟨⟨by decide +kernel, by decide +kernel⟩, List.mem_of_getElem? (i := 48) (by decide +kernel), List.mem_of_getElem? (i := 379) (by decide +kernel), List.mem_of_getElem? (i := 380) (by decide +kernel)⟩
theorem lw_p27 : lw_okq (⟨"Formationist", "requireMember", "(I)V"⟩, 18) := ⟨⟨by decide +kernel, by decide +kernel⟩, List.mem_of_getElem? (i := 26) (by decide +kernel), List.mem_of_getElem? (i := 420) (by decide +kernel), List.mem_of_getElem? (i := 421) (by decide +kernel)⟩
theorem lw_p28 : lw_okq (⟨"Formationist", "requireUnlike", "(II)V"⟩, 18) := ⟨⟨by decide +kernel, by decide +kernel⟩, List.mem_of_getElem? (i := 26) (by decide +kernel), List.mem_of_getElem? (i := 459) (by decide +kernel), List.mem_of_getElem? (i := 460) (by decide +kernel)⟩
theorem lw_p29 : lw_okq (⟨"Formationist$Net", "cut", "(II)V"⟩, 1) := ⟨⟨by decide +kernel, by decide +kernel⟩, List.mem_of_getElem? (i := 36) (by decide +kernel), List.mem_of_getElem? (i := 464) (by decide +kernel), List.mem_of_getElem? (i := 465) (by decide +kernel)⟩
theorem lw_p30 : lw_okq (⟨"Formationist", "stepTogether", "()V"⟩, 18) := ⟨⟨by decide +kernel, by decide +kernel⟩, List.mem_of_getElem? (i := 26) (by decide +kernel), List.mem_of_getElem? (i := 517) (by decide +kernel), List.mem_of_getElem? (i := 518) (by decide +kernel)⟩
theorem lw_p31 : lw_okq (⟨"Formationist", "stepOf", "(I[I)I"⟩, 18) := ⟨⟨by decide +kernel, by decide +kernel⟩, List.mem_of_getElem? (i := 26) (by decide +kernel), List.mem_of_getElem? (i := 521) (by decide +kernel), List.mem_of_getElem? (i := 522) (by decide +kernel)⟩
def lw_privs_2 : List (MethodName × Nat) := [(⟨"Formationist$TreeMatrix", "fill", "(LFormationist$Net;I)I"⟩, 1), (⟨"Formationist$TreeMatrix", "determinant", "(I)J"⟩, 1), (⟨"Formationist", "countGroups", "()I"⟩, 18), (⟨"Formationist$Net", "groupOf", "(I)I"⟩, 1), (⟨"Formationist$PebbleGame", "rankOf", "(LFormationist$Net;)I"⟩, 3), (⟨"Formationist$PebbleGame", "gatherPebbles", "(II)Z"⟩, 3), (⟨"Formationist$PebbleGame", "fetchPebble", "(II)Z"⟩, 3), (⟨"Formationist$PebbleGame", "findPebble", "(II)I"⟩, 3), (⟨"Formationist$PebbleGame", "noteWay", "(II)V"⟩, 3), (⟨"Formationist$PebbleGame", "holderAmong", "(I)I"⟩, 3), (⟨"Formationist$PebbleGame", "turnArcs", "(I)V"⟩, 3), (⟨"Formationist", "requireMember", "(I)V"⟩, 18), (⟨"Formationist", "requireUnlike", "(II)V"⟩, 18), (⟨"Formationist$Net", "cut", "(II)V"⟩, 1), (⟨"Formationist", "stepTogether", "()V"⟩, 18), (⟨"Formationist", "stepOf", "(I[I)I"⟩, 18)]
theorem lw_r2 : ∀ q ∈ lw_privs_2, lw_okq q := List.forall_mem_cons.mpr ⟨lw_p16, List.forall_mem_cons.mpr ⟨lw_p17, List.forall_mem_cons.mpr ⟨lw_p18, List.forall_mem_cons.mpr ⟨lw_p19, List.forall_mem_cons.mpr ⟨lw_p20, List.forall_mem_cons.mpr ⟨lw_p21, List.forall_mem_cons.mpr ⟨lw_p22, List.forall_mem_cons.mpr ⟨lw_p23, List.forall_mem_cons.mpr ⟨lw_p24, List.forall_mem_cons.mpr ⟨lw_p25, List.forall_mem_cons.mpr ⟨lw_p26, List.forall_mem_cons.mpr ⟨lw_p27, List.forall_mem_cons.mpr ⟨lw_p28, List.forall_mem_cons.mpr ⟨lw_p29, List.forall_mem_cons.mpr ⟨lw_p30, List.forall_mem_cons.mpr ⟨lw_p31, fun _ h => absurd h List.not_mem_nil⟩⟩⟩⟩⟩⟩⟩⟩⟩⟩⟩⟩⟩⟩⟩⟩
theorem lw_p32 : lw_okq (⟨"Formationist", "excessOf", "(II)I"⟩, 18) := ⟨⟨by decide +kernel, by decide +kernel⟩, List.mem_of_getElem? (i := 26) (by decide +kernel), List.mem_of_getElem? (i := 525) (by decide +kernel), List.mem_of_getElem? (i := 526) (by decide +kernel)⟩
theorem lw_p33 : lw_okq (⟨"Formationist$Net", "pairCount", "()I"⟩, 1) := ⟨⟨by decide +kernel, by decide +kernel⟩, List.mem_of_getElem? (i := 36) (by decide +kernel), List.mem_of_getElem? (i := 561) (by decide +kernel), List.mem_of_getElem? (i := 562) (by decide +kernel)⟩
theorem lw_p34 : lw_okq (⟨"Formationist", "outranks", "(II)Z"⟩, 18) := ⟨⟨by decide +kernel, by decide +kernel⟩, List.mem_of_getElem? (i := 26) (by decide +kernel), List.mem_of_getElem? (i := 585) (by decide +kernel), List.mem_of_getElem? (i := 586) (by decide +kernel)⟩
theorem lw_p35 : lw_okq (⟨"Formationist$LinkCounts", "rankOf", "(LFormationist$Net;)I"⟩, 1) := ⟨⟨by decide +kernel, by decide +kernel⟩, List.mem_of_getElem? (i := 64) (by decide +kernel), List.mem_of_getElem? (i := 637) (by decide +kernel), List.mem_of_getElem? (i := 638) (by decide +kernel)⟩
theorem lw_p36 : lw_okq (⟨"Formationist$LinkCounts", "leavesFree", "(I)Z"⟩, 1) := ⟨⟨by decide +kernel, by decide +kernel⟩, List.mem_of_getElem? (i := 64) (by decide +kernel), List.mem_of_getElem? (i := 644) (by decide +kernel), List.mem_of_getElem? (i := 645) (by decide +kernel)⟩
theorem lw_p37 : lw_okq (⟨"Formationist$LinkCounts", "keepLink", "(I)V"⟩, 1) := ⟨⟨by decide +kernel, by decide +kernel⟩, List.mem_of_getElem? (i := 64) (by decide +kernel), List.mem_of_getElem? (i := 649) (by decide +kernel), List.mem_of_getElem? (i := 650) (by decide +kernel)⟩
def lw_privs_3 : List (MethodName × Nat) := [(⟨"Formationist", "excessOf", "(II)I"⟩, 18), (⟨"Formationist$Net", "pairCount", "()I"⟩, 1), (⟨"Formationist", "outranks", "(II)Z"⟩, 18), (⟨"Formationist$LinkCounts", "rankOf", "(LFormationist$Net;)I"⟩, 1), (⟨"Formationist$LinkCounts", "leavesFree", "(I)Z"⟩, 1), (⟨"Formationist$LinkCounts", "keepLink", "(I)V"⟩, 1)]
theorem lw_r3 : ∀ q ∈ lw_privs_3, lw_okq q := List.forall_mem_cons.mpr ⟨lw_p32, List.forall_mem_cons.mpr ⟨lw_p33, List.forall_mem_cons.mpr ⟨lw_p34, List.forall_mem_cons.mpr ⟨lw_p35, List.forall_mem_cons.mpr ⟨lw_p36, List.forall_mem_cons.mpr ⟨lw_p37, fun _ h => absurd h List.not_mem_nil⟩⟩⟩⟩⟩⟩
def lw_privs : List (MethodName × Nat) := lw_privs_1 ++ (lw_privs_2 ++ (lw_privs_3))
def lw_tbl : List Cond := k2_sels lw_privs ++ tables_1
theorem lw_privs_ok : ∀ q ∈ lw_privs, lw_okq q := by
  show ∀ q ∈ lw_privs_1 ++ (lw_privs_2 ++ (lw_privs_3)), lw_okq q
  exact List.forall_mem_append.mpr ⟨lw_r1, List.forall_mem_append.mpr ⟨lw_r2, lw_r3⟩⟩
-- ===== end of PART A; then your names; then what follows =====
/-! ===== BEGIN words of one list among another's, by their places ===== -/
theorem goodIn_r {big : List Cond} (ws : List Cond) (ps : List Nat) (hp : ws = ps.filterMap (fun i => big[i]?)) (h : ws.all goodWord = true) : GoodIn big ws := by
  intro w hw
  have h1 := List.all_eq_true.mp h w hw
  rw [hp] at hw
  obtain ⟨i, -, hi⟩ := List.mem_filterMap.mp hw
  have hm : w ∈ big := by first | exact List.mem_of_getElem? hi | exact List.getElem?_mem hi
  exact ⟨hm, good_of_word h1⟩
theorem goodIn_app {big a b : List Cond} (ha : GoodIn big a) (hb : GoodIn big b) : GoodIn big (a ++ b) := fun w h => (List.mem_append.mp h).elim (ha w) (hb w)
theorem goodIn_ca {big a b : List Cond} {c : Cond} (ha : GoodIn big (c :: a)) (hb : GoodIn big b) : GoodIn big (c :: (a ++ b)) := fun w h => (List.mem_cons.mp h).elim (fun e => ha w (List.mem_cons.mpr (Or.inl e))) (fun h => (List.mem_append.mp h).elim (fun h => ha w (List.mem_cons.mpr (Or.inr h))) (hb w))
theorem goodIn_sub {big ws : List Cond} (hm : ∀ w ∈ ws, w ∈ big) (h : ws.all goodWord = true) : GoodIn big ws := fun w hw => ⟨hm w hw, good_of_word (List.all_eq_true.mp h w hw)⟩
/-! ===== END ===== -/


/-! ===== BEGIN exceptions that leave a method, and their catching by the caller (launches without stack traces) ===== -/
section VXA
/-! The laws vx_back, vx_callV, vx_callS, vx_callSW, vx_throw0, vx_throwS follow proofs of the library, with one case more: JvmDerived/Free/Laws.lean (Back.of_free), Shelf42/LK1.lean (callV, callS), Shelf/KitTraced.lean (throwNew0V, throwNewS). -/
/-- where a method has thrown q: the class by its name, the cell, what was written, the world -/
def vx_T (XC : String → State → State → Prop) (st : State) (q : Addr) (t : State) (mc ms : Nat) (free : Addr → Prop) : Prop :=
  ∃ (E : String) (ce : Cell) (L : List Loc), XC E st t ∧ t.heap[q]? = some ce ∧ ce.vm = .none ∧ st.vm.findClass E = some ce.cls ∧ st.WarmedH t.vm ∧ st.sameButNew ({ t with vm := st.vm } : State) L mc ms ∧ ∀ z ∈ L, free z.base
def vx_Q (Qc : Array Value → State → Outcome → State → Prop) (XC : String → State → State → Prop) (mc ms : Nat) (free : Addr → Prop) : Array Value → State → Outcome → State → Prop := fun a st o t =>
  (Qc a st o t ∧ ∃ L, FrameEnd st o t L mc ms ∧ ∀ q ∈ L, free q.base) ∨ ∃ q, o = .threw q ∧ vx_T XC st q t mc ms free
/-- a callee that returns or throws -/
def vx_Met (l : Launch) (y : MethodName) (ws : List Cond) (rm : Room) (Pc : Array Value → State → Prop) (Qc : Array Value → State → Outcome → State → Prop) (XC : String → State → State → Prop) (mc ms : Nat) (free : Addr → Prop) : Prop :=
  MetFree l y (headSpec ws rm) Pc (fun _ _ _ _ _ => True) (vx_Q Qc XC mc ms free)
def vx_Post (XC : String → State → State → Prop) (mc ms : Nat) (free : Addr → Prop) : Pt → Array Value → Addr → Pt → Prop := fun A a q B =>
  ∃ (g : JFrame) (mk : MethodId) (t : State) (L : List Loc) (E : String) (ce : Cell), B.U.heap = t.heap ∧ B.U.vm = t.vm ∧ XC E (A.U.calling g mk a) t ∧ t.heap[q]? = some ce ∧ ce.vm = .none ∧ A.U.vm.findClass E = some ce.cls ∧ B.locs = A.locs ++ L ∧ (∀ z ∈ L, free z.base) ∧ B.cells = A.cells + mc ∧ B.slots = A.slots + ms
def vx_Back (l : Launch) (R : Room) (p : Program) (e : Env) (below : List Frame) (s : State) (sargs : Array Value) (y : MethodName) (len W9 : Nat)
    (Pre : Pt → Array Value → Prop) (Post : Pt → Array Value → Option Value → Pt → Prop) (PostX : Pt → Array Value → Addr → Pt → Prop) : Prop :=
  ∀ (m : MethodId) (meth : Method) (c : Code) (A : Pt) (g : JFrame) (ig : Instr) (mk : MethodId) (a : Array Value),
    Stand p l e R s m sargs below meth c A.U A.locs A.cells A.slots → g.method = m → g.locals.size = c.maxLocals → decode c.code g.pc = .ok (ig, len) →
    2 * g.monitorRoom + (g.stack.map fun v => v.category).sum ≤ W9 → A.U.methodNamed? y = some mk → Pre A a →
    (∃ (v : Option Value) (B : Pt), Stand p l e R s m sargs below meth c B.U B.locs B.cells B.slots ∧ Post A a v B ∧
      Steps p.tables e below (doInvoke e (A.U.setTop g) [] mk a).1 (B.U.setTop { g with pc := g.pc + len, stack := v.toList ++ g.stack })) ∨
    (∃ (q : Addr) (B : Pt), Stand p l e R s m sargs below meth c B.U B.locs B.cells B.slots ∧ PostX A a q B ∧
      Steps p.tables e below (doInvoke e (A.U.setTop g) [] mk a).1 ((B.U.setTop g).pushFrame (.throwing q)))
section Payer
variable {l : Launch} {R : Room} {p : Program} {e : Env} {below : List Frame} {s : State} {sargs : Array Value} {y : MethodName} {len W9 : Nat}
theorem vx_back {ws : List Cond} {rm : Room} {Pc : Array Value → State → Prop} {Qc : Array Value → State → Outcome → State → Prop} {XC : String → State → State → Prop} {mc ms : Nat} {free : Addr → Prop} {bytes : ByteArray} {maxL : Nat} {ret : Option FieldType}
    (hM : vx_Met l y ws rm Pc Qc XC mc ms free) (hblind : FrameBlind Pc) (hrc : rm.cells = mc) (hrs : rm.slots = ms)
    (hframes : rm.frames + 1 ≤ R.frames) (hlocals : W9 + (maxL + 11) + rm.locals ≤ R.locals)
    (hws : ∀ w ∈ ws, ∀ a' U, s.WarmedH U.vm → w.before a' U = true) (hcode : Cond.code y bytes maxL ret ∈ ws) (hinit : ∀ a' U, s.WarmedH U.vm → (Cond.initialized y.cls).before a' U = true) :
    vx_Back l R p e below s sargs y len W9 (PreOf R mc ms Pc) (PostOf Qc mc ms free) (vx_Post XC mc ms free) := by
  intro m meth c A g ig mk a X hg hsize hdg hW hn hp
  have h1 : (headSpec ws rm).pre.before a A.U = true := atoms_intro fun w hw => hws w hw _ _ X.warmed
  have h2 : (Cond.code y bytes maxL ret).before a A.U = true := hws _ hcode _ _ X.warmed
  have h3 : (Cond.initialized y.cls).before a A.U = true := hinit _ _ X.warmed
  have h4 : A.cells + (headSpec ws rm).room.cells ≤ R.cells := by rw [show (headSpec ws rm).room.cells = mc from hrc]; exact hp.1
  have h5 : A.slots + (headSpec ws rm).room.slots ≤ R.slots := by rw [show (headSpec ws rm).room.slots = ms from hrs]; exact hp.2.1
  have hPc : Pc a (A.U.calling g mk a) := hblind _ _ _ _ hp.2.2
  obtain ⟨U, Ls, c0, s0⟩ := A
  dsimp only [Pt.U, Pt.locs, Pt.cells, Pt.slots] at h1 h2 h3 h4 h5 X hn hPc ⊢
  obtain ⟨methY, cY, hmY, hcY, -, hlY, -, -, -, -⟩ := Cond.code_spec hn h2
  obtain ⟨kY, hkY, -⟩ := className_of_methodNamed hn
  have hinitY : kY.init = .initialized := Cond.initialized_spec (findClass_of_methodNamed hn) hkY h3
  have h : At U g.method c below := by rw [hg]; exact X.here
  have hlocals9 : W9 + (maxL + 11) + (headSpec ws rm).room.locals ≤ R.locals := hlocals
  have happ : (headSpec ws rm).appliesLoose y e.platform (U.calling g mk a) = true :=
    Spec.appliesLoose_calling (g := g) h hdg hn hkY hinitY
      (X.room_calling (g := g) (R' := (headSpec ws rm).room) hsize hmY hcY hframes (by rw [hlY]; omega) h4 h5) h1
  obtain ⟨mid, hmid⟩ := h.above
  have hfr : (U.setTop g).frames = (.java g :: mid) ++ below := by rw [State.frames_setTop' g h.top, hmid]; rfl
  obtain ⟨o, s₂, hsteps, -, hend, hq⟩ := Steps.callFree hM p X.admits X.cas X.clock (acts := []) hfr happ hPc trivial
  have hq' : vx_Q Qc XC mc ms free a (U.calling g mk a) o s₂ := hq
  rw [State.frames_setTop' g h.top] at hend
  obtain ⟨g₀, hg0⟩ := Option.isSome_iff_exists.mp h.top
  obtain ⟨r, hr⟩ := State.topJava?_eq_some.mp hg0
  have hr' : (({ U with heap := s₂.heap, slotsUsed := s₂.slotsUsed } : State).setVm s₂.vm).frames = .java g₀ :: r := hr
  rcases hq' with ⟨hqc, L, hfe, hL⟩ | ⟨q, rfl, E, ce, L, hx, hce, hcv, hcl, hW₂, hsm, hL⟩
  · obtain ⟨⟨v, rfl⟩, hW₂, e2, q2, q3, q4, q5, q6⟩ := id hfe
    have e3 : s₂ = ({ (U.calling g mk a).setFrames s₂.frames with heap := s₂.heap, slotsUsed := s₂.slotsUsed } : State).setVm s₂.vm := by
      have : s₂ = ({ s₂ with vm := (U.calling g mk a).vm } : State).setVm s₂.vm := rfl
      rw [e2] at this
      exact this
    obtain ⟨c₂, i₂, len₂, hc₂, hd₂, hf₂⟩ := hend
    have hW' : U.WarmedH s₂.vm := hW₂
    have hcc : c₂ = c := by
      have h1 : s₂.code? g.method = U.code? g.method := by
        rw [State.code?_eq, State.code?_eq, hW'.alike.method?]
      exact Option.some.inj (hc₂.symm.trans (h1.trans h.code))
    subst hcc
    have hlen : len₂ = len := by rw [hdg] at hd₂; cases hd₂; rfl
    subst hlen
    have hs₂ : s₂ = (({ U with heap := s₂.heap, slotsUsed := s₂.slotsUsed } : State).setVm s₂.vm).setTop { g with pc := g.pc + len₂, stack := v.toList ++ g.stack } := by
      refine e3.trans ?_
      rw [hf₂, State.calling_eq h.top, State.setFrames_setFrames, State.setTop_of_frames _ hr', hr]
      rfl
    have hsame : U.sameButNew ({ U with heap := s₂.heap, slotsUsed := s₂.slotsUsed } : State) L mc ms := by
      refine ⟨?_, q2, q3, q4, q5, q6⟩
      obtain ⟨t, ht, -⟩ := State.frames_cons hr
      show ({ U with heap := s₂.heap, slotsUsed := s₂.slotsUsed } : State) = { U.setFrames U.frames with heap := s₂.heap, slotsUsed := s₂.slotsUsed }
      rw [State.setFrames_self ht]
    subst hg
    refine Or.inl ⟨v, ⟨(({ U with heap := s₂.heap, slotsUsed := s₂.slotsUsed } : State).setVm s₂.vm), Ls ++ L, c0 + mc, s0 + ms⟩,
      ⟨X.admits, X.cas, X.clock, X.frames, X.room, X.hears, X.method, X.code, (X.here.setHeapUsed s₂.heap s₂.slotsUsed).setVm hW'.alike, X.tail, State.WarmedH.trans X.warmed hW', X.limits, X.bytes, X.same.trans (hsame.setVm s.vm)⟩,
      ⟨g, mk, s₂, L, rfl, rfl, hqc, rfl, hL, rfl, rfl⟩, ?_⟩
    show Steps p.tables e below _ ((({ U with heap := s₂.heap, slotsUsed := s₂.slotsUsed } : State).setVm s₂.vm).setTop { g with pc := g.pc + len₂, stack := v.toList ++ g.stack })
    rw [← hs₂]
    exact hsteps
  · obtain ⟨e2, q2, q3, q4, q5, q6⟩ := id hsm
    have e3 : s₂ = ({ (U.calling g mk a).setFrames s₂.frames with heap := s₂.heap, slotsUsed := s₂.slotsUsed } : State).setVm s₂.vm := by
      have : s₂ = ({ s₂ with vm := (U.calling g mk a).vm } : State).setVm s₂.vm := rfl
      rw [e2] at this
      exact this
    have hf₂ : s₂.frames = .throwing q :: .java g :: U.frames.tail := hend
    have hW' : U.WarmedH s₂.vm := hW₂
    have hs₂ : s₂ = ((({ U with heap := s₂.heap, slotsUsed := s₂.slotsUsed } : State).setVm s₂.vm).setTop g).pushFrame (.throwing q) := by
      refine e3.trans ?_
      rw [hf₂, State.calling_eq h.top, State.setFrames_setFrames, State.pushFrame, State.frames_setTop _ hr', State.setTop_of_frames _ hr', State.setFrames_setFrames, hr]
      rfl
    have hsame : U.sameButNew ({ U with heap := s₂.heap, slotsUsed := s₂.slotsUsed } : State) L mc ms := by
      refine ⟨?_, q2, q3, q4, q5, q6⟩
      obtain ⟨t, ht, -⟩ := State.frames_cons hr
      show ({ U with heap := s₂.heap, slotsUsed := s₂.slotsUsed } : State) = { U.setFrames U.frames with heap := s₂.heap, slotsUsed := s₂.slotsUsed }
      rw [State.setFrames_self ht]
    subst hg
    refine Or.inr ⟨q, ⟨(({ U with heap := s₂.heap, slotsUsed := s₂.slotsUsed } : State).setVm s₂.vm), Ls ++ L, c0 + mc, s0 + ms⟩,
      ⟨X.admits, X.cas, X.clock, X.frames, X.room, X.hears, X.method, X.code, (X.here.setHeapUsed s₂.heap s₂.slotsUsed).setVm hW'.alike, X.tail, State.WarmedH.trans X.warmed hW', X.limits, X.bytes, X.same.trans (hsame.setVm s.vm)⟩,
      ⟨g, mk, s₂, L, E, ce, rfl, rfl, hx, hce, hcv, hcl, rfl, hL, rfl, rfl⟩, ?_⟩
    show Steps p.tables e below _ (((({ U with heap := s₂.heap, slotsUsed := s₂.slotsUsed } : State).setVm s₂.vm).setTop g).pushFrame (.throwing q))
    rw [← hs₂]
    exact hsteps
end Payer
section Calls
variable {p : Program} {l : Launch} {e : Env} {R : Room} {s : State} {m : MethodId} {args : Array Value} {below : List Frame} {meth : Method} {c : Code} {T : State} {locs : List Loc} {cells slots : Nat}
theorem vx_callV (X : Stand p l e R s m args below meth c T locs cells slots) (hexec : p.tables.exec = Jvm.exec) {own C : String} {index : Nat} {y : MethodName} {bytes : ByteArray} {maxL : Nat} {ret : Option FieldType}
    (hown : s.vm.findClass own = some m.cls) (hlink : (Cond.methodLink own index y).before args s = true) (hinst : (Cond.instanceMethod y).before args s = true) (hsel : (Cond.selects C y y).before args s = true)
    (hcode : (Cond.code y bytes maxL ret).before args s = true) (hy : y.cls ≠ "java/lang/invoke/MethodHandle" ∧ y.cls ≠ "java/lang/invoke/VarHandle")
    {W9 : Nat} {Pre : Pt → Array Value → Prop} {Post : Pt → Array Value → Option Value → Pt → Prop} {PostX : Pt → Array Value → Addr → Pt → Prop} (hK : vx_Back l R p e below s args y 3 W9 Pre Post PostX)
    {b : Addr} {cellB : Cell} (hcell : T.heap[b]? = some cellB) (hobj : cellB.vm.isStatics = false) (hcls : s.vm.findClass C = some cellB.cls)
    {g : JFrame} (hg : g.method = m) (hsize : g.locals.size = c.maxLocals) {argsL rest : List Value} (hlen : ∀ sig, parseMethodDescriptor y.desc = some sig → argsL.length = sig.parameters.length)
    (hstack : g.stack = argsL.reverse ++ .ref b :: rest) (hW : 2 * g.monitorRoom + (rest.map fun v => v.category).sum ≤ W9) (hdg : decode c.code g.pc = .ok (.invokevirtual index, 3))
    (hpre : ∀ vm₁, s.WarmedH vm₁ → Pre ⟨T.setVm vm₁, locs, cells, slots⟩ (Value.ref b :: argsL).toArray) :
    (∃ (v : Option Value) (vm₁ : Vm) (B : Pt), s.WarmedH vm₁ ∧ Stand p l e R s m args below meth c B.U B.locs B.cells B.slots ∧ Post ⟨T.setVm vm₁, locs, cells, slots⟩ (Value.ref b :: argsL).toArray v B ∧
      ∀ target, Steps p.tables e below (B.U.setTop { g with pc := g.pc + 3, stack := v.toList ++ rest }) target → Steps p.tables e below (T.setTop g) target) ∨
    (∃ (q : Addr) (vm₁ : Vm) (B : Pt), s.WarmedH vm₁ ∧ Stand p l e R s m args below meth c B.U B.locs B.cells B.slots ∧ PostX ⟨T.setVm vm₁, locs, cells, slots⟩ (Value.ref b :: argsL).toArray q B ∧
      Steps p.tables e below (T.setTop g) ((B.U.setTop { g with stack := rest }).pushFrame (.throwing q))) := by
  obtain ⟨mk, methM, hnamed, hmethM, hstM, habM⟩ := Cond.instanceMethod_spec hinst
  obtain ⟨methM', cM, hmethM', -, -, -, -, -, -, hsigM⟩ := Cond.code_spec hnamed hcode
  cases hmethM.symm.trans hmethM'
  obtain ⟨c2, r2, m2, q1, q2, q3, q4, kP, hkP, hkPi⟩ := Cond.selects_spec hsel
  cases hcls.symm.trans q1
  cases (State.methodFound?_of_named hnamed hy).symm.trans q2
  cases hnamed.symm.trans q3
  have hselP : selectMethod e.platform s.vm cellB.cls mk = .method mk := by rw [Launch.admits_selectMethod X.admits]; exact q4
  obtain ⟨vm₁, X₁, hstep₁⟩ := X.invokevirtual hexec hown hlink hnamed hmethM hstM hkP hkPi hy (a := b) (cell := cellB) hcell
    (fun z h => by rw [h] at hobj; cases hobj) hselP hmethM habM hkP hkPi (g := g) hg (argsL := argsL) (rest := rest) (hlen _ hsigM) hstack hdg
  rcases hK m meth c ⟨T.setVm vm₁, locs, cells, slots⟩ { g with stack := rest } (.invokevirtual index) mk (Value.ref b :: argsL).toArray X₁ hg hsize hdg hW (X₁.named hnamed) (hpre vm₁ X₁.warmed) with ⟨v, B, X', hpost, hsteps⟩ | ⟨q, B, X', hpost, hsteps⟩
  · exact Or.inl ⟨v, vm₁, B, X₁.warmed, X', hpost, fun target h => hstep₁ _ fun acts => by rw [doInvoke_state]; exact hsteps.trans h⟩
  · exact Or.inr ⟨q, vm₁, B, X₁.warmed, X', hpost, hstep₁ _ fun acts => by rw [doInvoke_state]; exact hsteps⟩
theorem vx_callS (X : Stand p l e R s m args below meth c T locs cells slots) (hexec : p.tables.exec = Jvm.exec) {own : String} {index : Nat} {y : MethodName} {bytes : ByteArray} {maxL : Nat} {ret : Option FieldType}
    (hown : s.vm.findClass own = some m.cls) (hlink : (Cond.methodLink own index y).before args s = true) (hstat : (Cond.static y).before args s = true) (hinit : (Cond.initialized y.cls).before args s = true)
    (hcode : (Cond.code y bytes maxL ret).before args s = true) (hy : y.cls ≠ "java/lang/invoke/MethodHandle" ∧ y.cls ≠ "java/lang/invoke/VarHandle")
    {W9 : Nat} {Pre : Pt → Array Value → Prop} {Post : Pt → Array Value → Option Value → Pt → Prop} {PostX : Pt → Array Value → Addr → Pt → Prop} (hK : vx_Back l R p e below s args y 3 W9 Pre Post PostX)
    {g : JFrame} (hg : g.method = m) (hsize : g.locals.size = c.maxLocals) {argsL rest : List Value} (hlen : ∀ sig, parseMethodDescriptor y.desc = some sig → argsL.length = sig.parameters.length)
    (hstack : g.stack = argsL.reverse ++ rest) (hW : 2 * g.monitorRoom + (rest.map fun v => v.category).sum ≤ W9) (hdg : decode c.code g.pc = .ok (.invokestatic index, 3))
    (hpre : ∀ vm₁, s.WarmedH vm₁ → Pre ⟨T.setVm vm₁, locs, cells, slots⟩ argsL.toArray) :
    (∃ (v : Option Value) (vm₁ : Vm) (B : Pt), s.WarmedH vm₁ ∧ Stand p l e R s m args below meth c B.U B.locs B.cells B.slots ∧ Post ⟨T.setVm vm₁, locs, cells, slots⟩ argsL.toArray v B ∧
      ∀ target, Steps p.tables e below (B.U.setTop { g with pc := g.pc + 3, stack := v.toList ++ rest }) target → Steps p.tables e below (T.setTop g) target) ∨
    (∃ (q : Addr) (vm₁ : Vm) (B : Pt), s.WarmedH vm₁ ∧ Stand p l e R s m args below meth c B.U B.locs B.cells B.slots ∧ PostX ⟨T.setVm vm₁, locs, cells, slots⟩ argsL.toArray q B ∧
      Steps p.tables e below (T.setTop g) ((B.U.setTop { g with stack := rest }).pushFrame (.throwing q))) := by
  obtain ⟨mk, hnamed⟩ := Cond.code_named hcode
  obtain ⟨methM, cM, hmethM, -, -, -, -, -, -, hsigM⟩ := Cond.code_spec hnamed hcode
  have hstatic : methM.isStatic = true := Cond.static_spec hnamed hmethM hstat
  obtain ⟨kP, hkP, -⟩ := className_of_methodNamed hnamed
  have hinitP : kP.init = .initialized := Cond.initialized_spec (findClass_of_methodNamed hnamed) hkP hinit
  obtain ⟨vm₁, X₁, hstep₁⟩ := X.invokestatic hexec hown hlink hnamed hmethM hstatic hkP hinitP hy (g := g) hg (argsL := argsL) (rest := rest) (hlen _ hsigM) hstack hdg
  rcases hK m meth c ⟨T.setVm vm₁, locs, cells, slots⟩ { g with stack := rest } (.invokestatic index) mk argsL.toArray X₁ hg hsize hdg hW (X₁.named hnamed) (hpre vm₁ X₁.warmed) with ⟨v, B, X', hpost, hsteps⟩ | ⟨q, B, X', hpost, hsteps⟩
  · exact Or.inl ⟨v, vm₁, B, X₁.warmed, X', hpost, fun target h => hstep₁ _ fun acts => by rw [doInvoke_state]; exact hsteps.trans h⟩
  · exact Or.inr ⟨q, vm₁, B, X₁.warmed, X', hpost, hstep₁ _ fun acts => by rw [doInvoke_state]; exact hsteps⟩
end Calls
theorem vx_cls {s : State} {T : State} {vm₁ : Vm} {E : String} {k : ClassId} (hW : s.WarmedH vm₁) (h : (T.setVm vm₁).vm.findClass E = some k) : s.vm.findClass E = some k := by
  have h1 : vm₁.findClass E = some k := h
  rw [hW.alike.findClass] at h1
  exact h1
/-- the method's frame g, with q thrown over it -/
def vx_W (p : Program) (l : Launch) (e : Env) (R : Room) (s : State) (m : MethodId) (args : Array Value) (below : List Frame) (meth : Method) (c : Code) (H : Heap) (locs : List Loc) (cells slots : Nat) (Q : State → Prop) (g : JFrame) (q : Addr) : Prop :=
  ∀ T : State, T.heap = H → Stand p l e R s m args below meth c T locs cells slots → ∃ t, Steps p.tables e below ((T.setTop g).pushFrame (.throwing q)) t ∧ Q t
def vx_Run (p : Program) (l : Launch) (e : Env) (R : Room) (s : State) (m : MethodId) (args : Array Value) (below : List Frame) (meth : Method) (c : Code) (H : Heap) (locs : List Loc) (cells slots mc ms : Nat) (g : JFrame) (rest : List Value) (Qa : State → Outcome → State → Prop) (XC : String → State → State → Prop) (free : Addr → Prop) : Prop :=
  ∀ T : State, T.heap = H → Stand p l e R s m args below meth c T locs cells slots →
    (∃ (v : Option Value) (st₀ t T' : State) (L : List Loc), st₀.heap = H ∧ Stand p l e R s m args below meth c T' (locs ++ L) (cells + mc) (slots + ms) ∧ (∀ q ∈ L, free q.base) ∧ T'.heap = t.heap ∧ T'.vm = t.vm ∧ Qa st₀ (.returned v) t ∧
      Goes p e below T g T' { g with pc := g.pc + 3, stack := v.toList ++ rest }) ∨
    (∃ (q : Addr) (st₀ t T' : State) (L : List Loc) (E : String) (ce : Cell), st₀.heap = H ∧ Stand p l e R s m args below meth c T' (locs ++ L) (cells + mc) (slots + ms) ∧ (∀ z ∈ L, free z.base) ∧ T'.heap = t.heap ∧ T'.vm = t.vm ∧ XC E st₀ t ∧ t.heap[q]? = some ce ∧ ce.vm = .none ∧ s.vm.findClass E = some ce.cls ∧
      Steps p.tables e below (T.setTop g) ((T'.setTop { g with stack := rest }).pushFrame (.throwing q)))
def vx_X {S : Type} (px : S → Prop) (B : String → S → State → Prop) (A : Nat → Prop) : String → State → State → Prop := fun E st t => ∃ u : S, px u ∧ B E u t ∧ va_F A st t
section Runs
variable {p : Program} {l : Launch} {e : Env} {R : Room} {s : State} {m : MethodId} {args : Array Value} {below : List Frame} {meth : Method} {c : Code} {H : Heap} {locs : List Loc} {cells slots : Nat}
variable {y : MethodName} {bytes cc : ByteArray} {maxL nL mc ms n index : Nat} {ret : Option FieldType} {ws : List Cond} {rm : Room} {Pc : Array Value → State → Prop} {Qc : Array Value → State → Outcome → State → Prop} {XC : String → State → State → Prop} {free : Addr → Prop} {Ts : List Cond} {own C : String} {b : Addr} {As rest : List Value} {g : JFrame}
theorem vx_callBack (cb : CallB R s args own index y bytes maxL ret ws rm mc ms n) (hM : vx_Met l y ws rm Pc Qc XC mc ms free) (hbl : FrameBlind Pc) : vx_Back l R p e below s args y 3 8 (PreOf R mc ms Pc) (PostOf Qc mc ms free) (vx_Post XC mc ms free) := by
  obtain ⟨hrc, hrs, hfr, hlo, hws, hcw, -, hini, -⟩ := cb
  exact vx_back (bytes := bytes) (maxL := maxL) (ret := ret) hM hbl hrc hrs hfr hlo hws hcw (fun a' U hW => word_at hW (Or.inl (by first | rfl | simp [Cond.onTables, Cond.keeps, Cond.steady])) hini)
theorem vx_runV (S : CallFix p m c cc nL s args Ts own) (hM : vx_Met l y ws rm Pc Qc XC mc ms free) (cw : CallW R s args own C index y bytes maxL ret ws rm mc ms n) (hp : PreV s H C b Pc As)
    (hg : g.method = m) (hn : As.length = n) (hsize : g.locals.size = nL) (hstack : g.stack = As.reverse ++ .ref b :: rest) (hW : 2 * g.monitorRoom + (rest.map fun v => v.category).sum ≤ 8) (hdg : decode cc g.pc = .ok (.invokevirtual index, 3)) (hf : cells + mc ≤ R.cells ∧ slots + ms ≤ R.slots) :
    vx_Run p l e R s m args below meth c H locs cells slots mc ms g rest (Qc (Value.ref b :: As).toArray) XC free := by
  have hK : vx_Back l R p e below s args y 3 8 (PreOf R mc ms Pc) (PostOf Qc mc ms free) (vx_Post XC mc ms free) := vx_callBack cw.1 hM hp.1
  obtain ⟨⟨-, -, -, -, -, -, hcode, -, hy, hlen, hl⟩, hin, hse⟩ := cw
  obtain ⟨hx, hb, hml, ho, -⟩ := S
  obtain ⟨-, ⟨cellB, hcB, hoB, hclB⟩, hPc⟩ := hp
  intro T hT X
  rcases vx_callV X hx (C := C) (bytes := bytes) (maxL := maxL) (ret := ret) ho hl hin hse hcode hy hK (by rw [hT]; exact hcB) hoB hclB hg (hsize.trans hml.symm) (argsL := As) (rest := rest) (fun sig h => hn.trans (hlen sig h)) hstack hW (by rw [hb]; exact hdg)
    (fun vm₁ hW₁ => ⟨hf.1, hf.2, hPc (T.setVm vm₁) hT hW₁⟩) with ⟨v, vm₁, ⟨U', l2, c2, s2⟩, hW₁, X', ⟨g', mk, t, L, e1, e2, hq, h1, hL, h2, h3⟩, st⟩ | ⟨q, vm₁, ⟨U', l2, c2, s2⟩, hW₁, X', ⟨g', mk, t, L, E, ce, e1, e2, hq, hce, hcv, hcl, h1, hL, h2, h3⟩, st⟩
  · dsimp only [Pt.U, Pt.locs, Pt.cells, Pt.slots] at X' e1 e2 h1 h2 h3 st
    subst h1; subst h2; subst h3
    exact Or.inl ⟨v, (T.setVm vm₁).calling g' mk (Value.ref b :: As).toArray, t, U', L, hT, X', hL, e1, e2, hq, st⟩
  · dsimp only [Pt.U, Pt.locs, Pt.cells, Pt.slots] at X' e1 e2 h1 h2 h3 st hcl
    subst h1; subst h2; subst h3
    exact Or.inr ⟨q, (T.setVm vm₁).calling g' mk (Value.ref b :: As).toArray, t, U', L, E, ce, hT, X', hL, e1, e2, hq, hce, hcv, vx_cls hW₁ hcl, st⟩
theorem vx_runS (S : CallFix p m c cc nL s args Ts own) (hM : vx_Met l y ws rm Pc Qc XC mc ms free) (cw : CallB R s args own index y bytes maxL ret ws rm mc ms n ∧ (Cond.static y).before args s = true) (hp : PreS s H Pc As)
    (hg : g.method = m) (hn : As.length = n) (hsize : g.locals.size = nL) (hstack : g.stack = As.reverse ++ rest) (hW : 2 * g.monitorRoom + (rest.map fun v => v.category).sum ≤ 8) (hdg : decode cc g.pc = .ok (.invokestatic index, 3)) (hf : cells + mc ≤ R.cells ∧ slots + ms ≤ R.slots) :
    vx_Run p l e R s m args below meth c H locs cells slots mc ms g rest (Qc As.toArray) XC free := by
  have hK : vx_Back l R p e below s args y 3 8 (PreOf R mc ms Pc) (PostOf Qc mc ms free) (vx_Post XC mc ms free) := vx_callBack cw.1 hM hp.1
  obtain ⟨⟨-, -, -, -, -, -, hcode, hini, hy, hlen, hl⟩, hstt⟩ := cw
  obtain ⟨hx, hb, hml, ho, -⟩ := S
  intro T hT X
  rcases vx_callS X hx (bytes := bytes) (maxL := maxL) (ret := ret) ho hl hstt hini hcode hy hK hg (hsize.trans hml.symm) (argsL := As) (rest := rest) (fun sig h => hn.trans (hlen sig h)) hstack hW (by rw [hb]; exact hdg)
    (fun vm₁ hW₁ => ⟨hf.1, hf.2, hp.2 (T.setVm vm₁) hT hW₁⟩) with ⟨v, vm₁, ⟨U', l2, c2, s2⟩, hW₁, X', ⟨g', mk, t, L, e1, e2, hq, h1, hL, h2, h3⟩, st⟩ | ⟨q, vm₁, ⟨U', l2, c2, s2⟩, hW₁, X', ⟨g', mk, t, L, E, ce, e1, e2, hq, hce, hcv, hcl, h1, hL, h2, h3⟩, st⟩
  · dsimp only [Pt.U, Pt.locs, Pt.cells, Pt.slots] at X' e1 e2 h1 h2 h3 st
    subst h1; subst h2; subst h3
    exact Or.inl ⟨v, (T.setVm vm₁).calling g' mk As.toArray, t, U', L, hT, X', hL, e1, e2, hq, st⟩
  · dsimp only [Pt.U, Pt.locs, Pt.cells, Pt.slots] at X' e1 e2 h1 h2 h3 st hcl
    subst h1; subst h2; subst h3
    exact Or.inr ⟨q, (T.setVm vm₁).calling g' mk As.toArray, t, U', L, E, ce, hT, X', hL, e1, e2, hq, hce, hcv, vx_cls hW₁ hcl, st⟩
end Runs
section Rows
variable {p : Program} {l : Launch} {e : Env} {R : Room} {s : State} {m : MethodId} {args : Array Value} {below : List Frame} {meth : Method} {c : Code} {H : Heap} {locs : List Loc} {cells slots : Nat} {Q : State → Prop}
variable {mc ms : Nat} {free : Addr → Prop} {A0 A1 : Nat → Prop} {H0 : Heap} {a : Array Value} {pc : Nat} {ls : Array Slot} {st0 rest : List Value}
theorem vx_keep {st₀ t T' : State} {L : List Loc} (h0 : st₀.heap = H) (e1 : T'.heap = t.heap) (hS : va_S A0 H0 H locs) (hA : ∀ q, q < H.size → A1 q → A0 q) (hf : ∀ q, free q → A0 q) (hL : ∀ q ∈ L, free q.base) (hF : va_F A1 st₀ t) :
    H.size ≤ T'.heap.size ∧ (∀ q : Nat, q < H.size → ¬ A1 q → T'.heap[q]? = H[q]?) ∧ va_S A0 H0 T'.heap (locs ++ L) := by
  obtain ⟨hz, hk⟩ := hF
  rw [h0] at hz hk
  exact ⟨by rw [e1]; exact hz, fun q h1 h2 => by rw [e1]; exact hk q h1 h2,
    ⟨Nat.le_trans hS.1 (by rw [e1]; exact hz), fun q h1 h2 => by rw [e1, hk q (Nat.lt_of_lt_of_le h1 hS.1) (fun z => h2 (hA q (Nat.lt_of_lt_of_le h1 hS.1) z))]; exact hS.2.1 q h1 h2, fun q hq => by
      rcases List.mem_append.mp hq with h | h
      · exact hS.2.2 q h
      · exact hf _ (hL q h)⟩⟩
theorem vx_calli {S SX : Type} {post : Int32 → S → Prop} {px : SX → Prop} {B : S → State → Prop} {BX : String → SX → State → Prop} {AX : Nat → Prop} (hr : vx_Run p l e R s m args below meth c H locs cells slots mc ms (F0 m pc ls st0) rest (va_Qi post B A1 a) (vx_X px BX AX) free) (hS : va_S A0 H0 H locs) (hA : ∀ q, q < H.size → A1 q → A0 q) (hf : ∀ q, free q → A0 q) (hAX : ∀ q, q < H.size → AX q → A0 q)
    (kx : ∀ (E : String) (ce : Cell) (q9 : Addr) (u : SX) (t : State) (H1 : Heap) (locs1 : List Loc), t.heap = H1 → s.vm.Alike t.vm → px u → BX E u t → H.size ≤ H1.size → (∀ q : Nat, q < H.size → ¬ AX q → H1[q]? = H[q]?) → va_S A0 H0 H1 locs1 → H1[q9]? = some ce → ce.vm = .none → s.vm.findClass E = some ce.cls → vx_W p l e R s m args below meth c H1 locs1 (cells + mc) (slots + ms) Q (F0 m pc ls rest) q9)
    (kk : ∀ (r : Int32) (u : S) (t : State) (H1 : Heap) (locs1 : List Loc), t.heap = H1 → s.vm.Alike t.vm → post r u → B u t → H.size ≤ H1.size → (∀ q : Nat, q < H.size → ¬ A1 q → H1[q]? = H[q]?) → va_S A0 H0 H1 locs1 → W p l e R s m args below meth c H1 locs1 (cells + mc) (slots + ms) Q (F0 m (pc + 3) ls (.int r :: rest))) : W p l e R s m args below meth c H locs cells slots Q (F0 m pc ls st0) := by
  intro T hT X
  rcases hr T hT X with ⟨v, st₀, t, T', L, h0, X', hL, e1, e2, ⟨⟨r, u, hv, hp, hb⟩, hF⟩, st⟩ | ⟨q, st₀, t, T', L, E, ce, h0, X', hL, e1, e2, ⟨u, hp, hb, hF⟩, hce, hcv, hcl, st⟩
  · cases hv
    obtain ⟨k1, k2, k3⟩ := vx_keep h0 e1 hS hA hf hL hF
    obtain ⟨t2, a1, b1⟩ := kk r u t T'.heap (locs ++ L) e1.symm (by rw [← e2]; exact X'.warmed.alike) hp hb k1 k2 k3 T' rfl X'
    exact ⟨t2, st t2 a1, b1⟩
  · obtain ⟨k1, k2, k3⟩ := vx_keep h0 e1 hS hAX hf hL hF
    obtain ⟨t2, a1, b1⟩ := kx E ce q u t T'.heap (locs ++ L) e1.symm (by rw [← e2]; exact X'.warmed.alike) hp hb k1 k2 k3 (by rw [e1]; exact hce) hcv hcl T' rfl X'
    exact ⟨t2, st.trans a1, b1⟩
theorem vx_calll {S SX : Type} {post : Int64 → S → Prop} {px : SX → Prop} {B : S → State → Prop} {BX : String → SX → State → Prop} {AX : Nat → Prop} (hr : vx_Run p l e R s m args below meth c H locs cells slots mc ms (F0 m pc ls st0) rest (va_Ql post B A1 a) (vx_X px BX AX) free) (hS : va_S A0 H0 H locs) (hA : ∀ q, q < H.size → A1 q → A0 q) (hf : ∀ q, free q → A0 q) (hAX : ∀ q, q < H.size → AX q → A0 q)
    (kx : ∀ (E : String) (ce : Cell) (q9 : Addr) (u : SX) (t : State) (H1 : Heap) (locs1 : List Loc), t.heap = H1 → s.vm.Alike t.vm → px u → BX E u t → H.size ≤ H1.size → (∀ q : Nat, q < H.size → ¬ AX q → H1[q]? = H[q]?) → va_S A0 H0 H1 locs1 → H1[q9]? = some ce → ce.vm = .none → s.vm.findClass E = some ce.cls → vx_W p l e R s m args below meth c H1 locs1 (cells + mc) (slots + ms) Q (F0 m pc ls rest) q9)
    (kk : ∀ (r : Int64) (u : S) (t : State) (H1 : Heap) (locs1 : List Loc), t.heap = H1 → s.vm.Alike t.vm → post r u → B u t → H.size ≤ H1.size → (∀ q : Nat, q < H.size → ¬ A1 q → H1[q]? = H[q]?) → va_S A0 H0 H1 locs1 → W p l e R s m args below meth c H1 locs1 (cells + mc) (slots + ms) Q (F0 m (pc + 3) ls (.long r :: rest))) : W p l e R s m args below meth c H locs cells slots Q (F0 m pc ls st0) := by
  intro T hT X
  rcases hr T hT X with ⟨v, st₀, t, T', L, h0, X', hL, e1, e2, ⟨⟨r, u, hv, hp, hb⟩, hF⟩, st⟩ | ⟨q, st₀, t, T', L, E, ce, h0, X', hL, e1, e2, ⟨u, hp, hb, hF⟩, hce, hcv, hcl, st⟩
  · cases hv
    obtain ⟨k1, k2, k3⟩ := vx_keep h0 e1 hS hA hf hL hF
    obtain ⟨t2, a1, b1⟩ := kk r u t T'.heap (locs ++ L) e1.symm (by rw [← e2]; exact X'.warmed.alike) hp hb k1 k2 k3 T' rfl X'
    exact ⟨t2, st t2 a1, b1⟩
  · obtain ⟨k1, k2, k3⟩ := vx_keep h0 e1 hS hAX hf hL hF
    obtain ⟨t2, a1, b1⟩ := kx E ce q u t T'.heap (locs ++ L) e1.symm (by rw [← e2]; exact X'.warmed.alike) hp hb k1 k2 k3 (by rw [e1]; exact hce) hcv hcl T' rfl X'
    exact ⟨t2, st.trans a1, b1⟩
theorem vx_callf {S SX : Type} {post : UInt32 → S → Prop} {px : SX → Prop} {B : S → State → Prop} {BX : String → SX → State → Prop} {AX : Nat → Prop} (hr : vx_Run p l e R s m args below meth c H locs cells slots mc ms (F0 m pc ls st0) rest (va_Qf post B A1 a) (vx_X px BX AX) free) (hS : va_S A0 H0 H locs) (hA : ∀ q, q < H.size → A1 q → A0 q) (hf : ∀ q, free q → A0 q) (hAX : ∀ q, q < H.size → AX q → A0 q)
    (kx : ∀ (E : String) (ce : Cell) (q9 : Addr) (u : SX) (t : State) (H1 : Heap) (locs1 : List Loc), t.heap = H1 → s.vm.Alike t.vm → px u → BX E u t → H.size ≤ H1.size → (∀ q : Nat, q < H.size → ¬ AX q → H1[q]? = H[q]?) → va_S A0 H0 H1 locs1 → H1[q9]? = some ce → ce.vm = .none → s.vm.findClass E = some ce.cls → vx_W p l e R s m args below meth c H1 locs1 (cells + mc) (slots + ms) Q (F0 m pc ls rest) q9)
    (kk : ∀ (r : UInt32) (u : S) (t : State) (H1 : Heap) (locs1 : List Loc), t.heap = H1 → s.vm.Alike t.vm → post r u → B u t → H.size ≤ H1.size → (∀ q : Nat, q < H.size → ¬ A1 q → H1[q]? = H[q]?) → va_S A0 H0 H1 locs1 → W p l e R s m args below meth c H1 locs1 (cells + mc) (slots + ms) Q (F0 m (pc + 3) ls (.float r :: rest))) : W p l e R s m args below meth c H locs cells slots Q (F0 m pc ls st0) := by
  intro T hT X
  rcases hr T hT X with ⟨v, st₀, t, T', L, h0, X', hL, e1, e2, ⟨⟨r, u, hv, hp, hb⟩, hF⟩, st⟩ | ⟨q, st₀, t, T', L, E, ce, h0, X', hL, e1, e2, ⟨u, hp, hb, hF⟩, hce, hcv, hcl, st⟩
  · cases hv
    obtain ⟨k1, k2, k3⟩ := vx_keep h0 e1 hS hA hf hL hF
    obtain ⟨t2, a1, b1⟩ := kk r u t T'.heap (locs ++ L) e1.symm (by rw [← e2]; exact X'.warmed.alike) hp hb k1 k2 k3 T' rfl X'
    exact ⟨t2, st t2 a1, b1⟩
  · obtain ⟨k1, k2, k3⟩ := vx_keep h0 e1 hS hAX hf hL hF
    obtain ⟨t2, a1, b1⟩ := kx E ce q u t T'.heap (locs ++ L) e1.symm (by rw [← e2]; exact X'.warmed.alike) hp hb k1 k2 k3 (by rw [e1]; exact hce) hcv hcl T' rfl X'
    exact ⟨t2, st.trans a1, b1⟩
theorem vx_calld {S SX : Type} {post : UInt64 → S → Prop} {px : SX → Prop} {B : S → State → Prop} {BX : String → SX → State → Prop} {AX : Nat → Prop} (hr : vx_Run p l e R s m args below meth c H locs cells slots mc ms (F0 m pc ls st0) rest (va_Qd post B A1 a) (vx_X px BX AX) free) (hS : va_S A0 H0 H locs) (hA : ∀ q, q < H.size → A1 q → A0 q) (hf : ∀ q, free q → A0 q) (hAX : ∀ q, q < H.size → AX q → A0 q)
    (kx : ∀ (E : String) (ce : Cell) (q9 : Addr) (u : SX) (t : State) (H1 : Heap) (locs1 : List Loc), t.heap = H1 → s.vm.Alike t.vm → px u → BX E u t → H.size ≤ H1.size → (∀ q : Nat, q < H.size → ¬ AX q → H1[q]? = H[q]?) → va_S A0 H0 H1 locs1 → H1[q9]? = some ce → ce.vm = .none → s.vm.findClass E = some ce.cls → vx_W p l e R s m args below meth c H1 locs1 (cells + mc) (slots + ms) Q (F0 m pc ls rest) q9)
    (kk : ∀ (r : UInt64) (u : S) (t : State) (H1 : Heap) (locs1 : List Loc), t.heap = H1 → s.vm.Alike t.vm → post r u → B u t → H.size ≤ H1.size → (∀ q : Nat, q < H.size → ¬ A1 q → H1[q]? = H[q]?) → va_S A0 H0 H1 locs1 → W p l e R s m args below meth c H1 locs1 (cells + mc) (slots + ms) Q (F0 m (pc + 3) ls (.double r :: rest))) : W p l e R s m args below meth c H locs cells slots Q (F0 m pc ls st0) := by
  intro T hT X
  rcases hr T hT X with ⟨v, st₀, t, T', L, h0, X', hL, e1, e2, ⟨⟨r, u, hv, hp, hb⟩, hF⟩, st⟩ | ⟨q, st₀, t, T', L, E, ce, h0, X', hL, e1, e2, ⟨u, hp, hb, hF⟩, hce, hcv, hcl, st⟩
  · cases hv
    obtain ⟨k1, k2, k3⟩ := vx_keep h0 e1 hS hA hf hL hF
    obtain ⟨t2, a1, b1⟩ := kk r u t T'.heap (locs ++ L) e1.symm (by rw [← e2]; exact X'.warmed.alike) hp hb k1 k2 k3 T' rfl X'
    exact ⟨t2, st t2 a1, b1⟩
  · obtain ⟨k1, k2, k3⟩ := vx_keep h0 e1 hS hAX hf hL hF
    obtain ⟨t2, a1, b1⟩ := kx E ce q u t T'.heap (locs ++ L) e1.symm (by rw [← e2]; exact X'.warmed.alike) hp hb k1 k2 k3 (by rw [e1]; exact hce) hcv hcl T' rfl X'
    exact ⟨t2, st.trans a1, b1⟩
theorem vx_callv {S SX : Type} {post : S → Prop} {px : SX → Prop} {B : S → State → Prop} {BX : String → SX → State → Prop} {AX : Nat → Prop} (hr : vx_Run p l e R s m args below meth c H locs cells slots mc ms (F0 m pc ls st0) rest (va_Qv post B A1 a) (vx_X px BX AX) free) (hS : va_S A0 H0 H locs) (hA : ∀ q, q < H.size → A1 q → A0 q) (hf : ∀ q, free q → A0 q) (hAX : ∀ q, q < H.size → AX q → A0 q)
    (kx : ∀ (E : String) (ce : Cell) (q9 : Addr) (u : SX) (t : State) (H1 : Heap) (locs1 : List Loc), t.heap = H1 → s.vm.Alike t.vm → px u → BX E u t → H.size ≤ H1.size → (∀ q : Nat, q < H.size → ¬ AX q → H1[q]? = H[q]?) → va_S A0 H0 H1 locs1 → H1[q9]? = some ce → ce.vm = .none → s.vm.findClass E = some ce.cls → vx_W p l e R s m args below meth c H1 locs1 (cells + mc) (slots + ms) Q (F0 m pc ls rest) q9)
    (kk : ∀ (u : S) (t : State) (H1 : Heap) (locs1 : List Loc), t.heap = H1 → s.vm.Alike t.vm → post u → B u t → H.size ≤ H1.size → (∀ q : Nat, q < H.size → ¬ A1 q → H1[q]? = H[q]?) → va_S A0 H0 H1 locs1 → W p l e R s m args below meth c H1 locs1 (cells + mc) (slots + ms) Q (F0 m (pc + 3) ls (rest))) : W p l e R s m args below meth c H locs cells slots Q (F0 m pc ls st0) := by
  intro T hT X
  rcases hr T hT X with ⟨v, st₀, t, T', L, h0, X', hL, e1, e2, ⟨⟨u, hv, hp, hb⟩, hF⟩, st⟩ | ⟨q, st₀, t, T', L, E, ce, h0, X', hL, e1, e2, ⟨u, hp, hb, hF⟩, hce, hcv, hcl, st⟩
  · cases hv
    obtain ⟨k1, k2, k3⟩ := vx_keep h0 e1 hS hA hf hL hF
    obtain ⟨t2, a1, b1⟩ := kk u t T'.heap (locs ++ L) e1.symm (by rw [← e2]; exact X'.warmed.alike) hp hb k1 k2 k3 T' rfl X'
    exact ⟨t2, st t2 a1, b1⟩
  · obtain ⟨k1, k2, k3⟩ := vx_keep h0 e1 hS hAX hf hL hF
    obtain ⟨t2, a1, b1⟩ := kx E ce q u t T'.heap (locs ++ L) e1.symm (by rw [← e2]; exact X'.warmed.alike) hp hb k1 k2 k3 (by rw [e1]; exact hce) hcv hcl T' rfl X'
    exact ⟨t2, st.trans a1, b1⟩
/-- caught by the row x of this method's table; the rows ahead don't take it -/
theorem vx_catch {own name : String} {E : String} {ce : Cell} {q : Addr} (hown : s.vm.findClass own = some m.cls) (pre : List ExceptionTableEntry) (x : ExceptionTableEntry) (suf : List ExceptionTableEntry) (hsplit : c.exceptionTable.toList = pre ++ x :: suf)
    (hpass : ∀ z ∈ pre, covers z pc = false ∨ (z.catchType ≠ 0 ∧ ∃ nm : String, (Cond.classLink own z.catchType nm).before args s = true ∧ va_Nc E nm s)) (hx : covers x pc = true) (h0 : x.catchType ≠ 0)
    (hlink : (Cond.classLink own x.catchType name).before args s = true) (hcast : (Cond.castable E name).before args s = true) (hcell : H[q]? = some ce) (hv : ce.vm = .none) (hcl : s.vm.findClass E = some ce.cls)
    (kk : W p l e R s m args below meth c H locs cells slots Q (F0 m x.handlerPc ls [.ref q])) : vx_W p l e R s m args below meth c H locs cells slots Q (F0 m pc ls rest) q := by
  intro T hT X
  have hpl : e.platform.magicAccessors = ({} : Platform).magicAccessors := by rw [X.admits.platform]
  obtain ⟨c3, c4, hc3, hc4, hasg⟩ := Cond.castable_spec hcast
  cases Option.some.inj (hc3.symm.trans hcl)
  obtain ⟨c5, hc5, hcl5⟩ := Cond.classLink_spec hown hlink e.platform hpl
  cases Option.some.inj (hc4.symm.trans hc5)
  obtain ⟨vm', X', st⟩ := X.thenCaughtThrough q (g := F0 m pc ls rest) rfl (Steps.refl _) (by rw [hT]; exact hcell) (by rw [hv]; rfl) (by obtain ⟨k9, h9, -⟩ := Vm.findClass_spec hcl; exact ⟨k9, h9⟩) pre x suf hsplit
    (fun z hz => by
      rcases hpass z hz with h | ⟨hz0, nm, hl1, hn1⟩
      · exact Or.inl h
      · obtain ⟨c6, hc6, hcl6⟩ := Cond.classLink_spec hown hl1 e.platform hpl
        obtain ⟨a8, b8, h1, h2, h3⟩ := hn1
        cases Option.some.inj (h1.symm.trans hcl)
        cases Option.some.inj (h2.symm.trans hc6)
        exact Or.inr ⟨hz0, _, hcl6, h3⟩) hx (Or.inr ⟨h0, c4, hcl5, hasg⟩)
  obtain ⟨t, a1, b1⟩ := kk (T.setVm vm') hT X'
  exact ⟨t, st.trans a1, b1⟩
end Rows
section Ends
variable {p : Program} {l : Launch} {e : Env} {R : Room} {s : State} {m : MethodId} {args : Array Value} {below : List Frame} {meth : Method} {c : Code} {H : Heap} {locs : List Loc} {cells slots : Nat} {Q : State → Prop}
variable {mc ms : Nat} {free : Addr → Prop} {A0 A1 : Nat → Prop} {H0 : Heap} {a : Array Value} {ls : Array Slot} {st0 rest : List Value}
variable {Qc : Array Value → State → Outcome → State → Prop} {XC : String → State → State → Prop}
/-- what a body that may throw owes at its end -/
def vx_MQ (below : List Frame) (Qc : Array Value → State → Outcome → State → Prop) (XC : String → State → State → Prop) (a : Array Value) (s : State) (mc ms : Nat) (free : Addr → Prop) : State → Prop := fun t =>
  ∃ o, t.status = .running ∧ Ended t below o ∧ vx_Q Qc XC mc ms free a s o t
theorem vx_ret {g : JFrame} {mc ms : Nat} (k : W p l e R s m args below meth c H locs cells slots (MQ below Qc args s mc ms free) g) : W p l e R s m args below meth c H locs cells slots (vx_MQ below Qc XC args s mc ms free) g := by
  intro T hT X
  obtain ⟨t, a1, o, b1, b2, b3, b4⟩ := k T hT X
  exact ⟨t, a1, o, b1, b2, Or.inl ⟨b3, b4⟩⟩
/-- not caught here: it goes on to the caller -/
theorem vx_widen {g : JFrame} {q : Addr} {k n : Nat} (h1 : cells ≤ k) (h2 : slots ≤ n) (kk : vx_W p l e R s m args below meth c H locs k n Q g q) : vx_W p l e R s m args below meth c H locs cells slots Q g q := fun T hT X => kk T hT (stand_widen X h1 h2)
theorem vx_out {pc : Nat} {E : String} {ce : Cell} {q : Addr} {mc ms : Nat} (hout : ∀ x ∈ c.exceptionTable.toList, covers x pc = false) (hlocks : meth.locks = false) (hcell : H[q]? = some ce) (hv : ce.vm = .none) (hcl : s.vm.findClass E = some ce.cls)
    (hx : ∀ t : State, t.heap = H → s.vm.Alike t.vm → XC E s t) (hf : ∀ z ∈ locs, free z.base) (hc : cells ≤ mc) (hs : slots ≤ ms) :
    vx_W p l e R s m args below meth c H locs cells slots (vx_MQ below Qc XC args s mc ms free) (F0 m pc ls rest) q := by
  intro T hT X
  obtain ⟨st1, hrun, hend, hW, hsm⟩ := X.leaveThrown q (g := F0 m pc ls rest) rfl rfl rfl hout hlocks
  have hcell9 : (T.setFrames (.throwing q :: below)).heap[q]? = some ce := by
    show T.heap[q]? = some ce
    rw [hT]; exact hcell
  exact ⟨_, st1, .threw q, hrun, hend, Or.inr ⟨q, rfl, E, ce, locs, hx _ hT hW.alike, hcell9, hv, hcl, hW, hsm.mono hc hs, hf⟩⟩
theorem vx_frame {U : State} {k n : Nat} (h : s.sameButNew ({ U with vm := s.vm } : State) locs k n) : s.heap.size ≤ U.heap.size ∧ ∀ q : Nat, q < s.heap.size → (∀ z ∈ locs, z.base ≠ q) → U.heap[q]? = s.heap[q]? := by
  obtain ⟨-, h2, -, -, -, h6⟩ := h
  refine ⟨h2, fun q hq hz => ?_⟩
  obtain ⟨c9, e1, e2, e3, e4⟩ := h6 q _ (Array.getElem?_eq_getElem hq)
  have hs : c9.slots = (s.heap[q]).slots := Array.ext_getElem? fun i => e4 i fun hm => hz _ hm rfl
  have h9 : c9 = s.heap[q] := by
    rw [hs] at e2
    exact e2
  have e5 : U.heap[q]? = some c9 := e1
  rw [e5, h9, Array.getElem?_eq_getElem hq]
/-- the words of a throw but the four that speak of the heap -/
def vx_no (w : Cond) : Bool := decide (w ≠ .isRef (.static Bundle.tN "UNASSIGNED_STACK" Bundle.steD)) && decide (w ≠ .isRef (.static Bundle.tN "SUPPRESSED_SENTINEL" Bundle.listD)) && decide (w ≠ .laysStatic Bundle.tN "UNASSIGNED_STACK" Bundle.steD) && decide (w ≠ .laysStatic Bundle.tN "SUPPRESSED_SENTINEL" Bundle.listD)
def vx_at0 (own : String) (ic : Nat) (X : String) (names : List String) : List Cond := (Bundle.ownAtoms0 own ic X names).filter vx_no
def vx_atS (own : String) (ic : Nat) (X : String) (names : List String) : List Cond := (Bundle.ownAtoms own ic X names).filter vx_no
/-- a word that the tables alone decide, or a good one -/
def vx_ot (w : Cond) : Bool := w.onTables || goodWord w
theorem vx_ot_at {args a' : Array Value} {s U : State} {w : Cond} (hW : s.WarmedH U.vm) (hvm : s.vm = U.vm) (hg : vx_ot w = true) (h : w.before args s = true) : w.before a' U = true := by
  simp only [vx_ot, Bool.or_eq_true] at hg
  rcases hg with hg | hg
  · exact va_tabs hg hvm h
  · exact word_at hW (good_of_word hg) h
/-- a list's words: the good ones out of the method's own list, the others by premises of their own -/
theorem vx_hat {args : Array Value} {s : State} {L B : List Cond} (h1 : ∀ w ∈ L.filter goodWord, w.before args s = true) (h2 : ∀ w ∈ L.filter (fun w => !goodWord w), w ∈ B) (h3 : ∀ w ∈ B, w.before args s = true) : ∀ w ∈ L, w.before args s = true := by
  intro w hw
  by_cases g : goodWord w = true
  · exact h1 w (List.mem_filter.mpr ⟨hw, g⟩)
  · refine h3 w (h2 w (List.mem_filter.mpr ⟨hw, ?_⟩))
    show (!goodWord w) = true
    cases hgw : goodWord w
    · rfl
    · exact absurd hgw g
theorem vx_c {args : Array Value} {s : State} {w : Cond} {B : List Cond} (h : w.before args s = true) (t : ∀ w ∈ B, w.before args s = true) : ∀ w' ∈ w :: B, w'.before args s = true := fun w' h' => (List.mem_cons.mp h').elim (fun e => by rw [e]; exact h) (t w')
theorem vx_n {args : Array Value} {s : State} : ∀ w ∈ ([] : List Cond), w.before args s = true := fun _ h => nomatch h
theorem vx_own {args : Array Value} {s : State} {L : List Cond} (h1 : ∀ w ∈ L.filter vx_no, w.before args s = true)
    (hU : (Cond.isRef (.static Bundle.tN "UNASSIGNED_STACK" Bundle.steD)).before args s = true) (hN : (Cond.isRef (.static Bundle.tN "SUPPRESSED_SENTINEL" Bundle.listD)).before args s = true)
    (lU : (Cond.laysStatic Bundle.tN "UNASSIGNED_STACK" Bundle.steD).before args s = true) (lN : (Cond.laysStatic Bundle.tN "SUPPRESSED_SENTINEL" Bundle.listD).before args s = true) : ∀ w ∈ L, w.before args s = true := by
  intro w hw
  by_cases e1 : w = .isRef (.static Bundle.tN "UNASSIGNED_STACK" Bundle.steD)
  · rw [e1]; exact hU
  · by_cases e2 : w = .isRef (.static Bundle.tN "SUPPRESSED_SENTINEL" Bundle.listD)
    · rw [e2]; exact hN
    · by_cases e3 : w = .laysStatic Bundle.tN "UNASSIGNED_STACK" Bundle.steD
      · rw [e3]; exact lU
      · by_cases e4 : w = .laysStatic Bundle.tN "SUPPRESSED_SENTINEL" Bundle.listD
        · rw [e4]; exact lN
        · exact h1 w (List.mem_filter.mpr ⟨hw, by unfold vx_no; rw [decide_eq_true e1, decide_eq_true e2, decide_eq_true e3, decide_eq_true e4]; rfl⟩)
/-- where a static field lies, its class's statics cell in H -/
def vx_L (C n d : String) (A : Nat → Prop) (U : State) (H : Heap) : Prop := ∃ (c : ClassId) (k : Class) (i : Nat) (f : Field) (a : Nat) (cell : Cell), U.vm.findClass C = some c ∧ U.fieldFound? C n d = some (c, k, i, f) ∧ f.isStatic = true ∧ k.statics = some a ∧ H[a]? = some cell ∧ cell.vm.isStatics = true ∧ cell.cls = c ∧ f.slot < cell.slots.size ∧ k.staticTypes[f.slot]? = some f.type ∧ ¬ A a
theorem vx_L.moved {C n d : String} {A : Nat → Prop} {u U : State} {H : Heap} (hvm : u.vm.Alike U.vm) (h : vx_L C n d A u H) : vx_L C n d A U H := by
  obtain ⟨c, k, i, f, a, cell, h1, h2, h3, h4, h5, h6, h7, h8, h9, h10⟩ := h
  obtain ⟨k', hi', he⟩ := State.fieldFound?_setVm hvm h2
  exact ⟨c, k', i, f, a, cell, by rw [hvm.findClass]; exact h1, hi', h3, by rw [he]; exact h4, h5, h6, h7, h8, by rw [he]; exact h9, h10⟩
theorem vx_L.kept {C n d : String} {A : Nat → Prop} {U : State} {H H1 : Heap} (h : vx_L C n d A U H) (hq : ∀ a : Nat, a < H.size → ¬ A a → H1[a]? = H[a]?) : vx_L C n d A U H1 := by
  obtain ⟨c, k, i, f, a, cell, h1, h2, h3, h4, h5, h6, h7, h8, h9, h10⟩ := h
  exact ⟨c, k, i, f, a, cell, h1, h2, h3, h4, by rw [hq a (Array.getElem?_eq_some_iff.mp h5).1 h10]; exact h5, h6, h7, h8, h9, h10⟩
theorem vx_L.narrow {C n d : String} {A B : Nat → Prop} {U : State} {H : Heap} (h : vx_L C n d A U H) (hAB : ∀ q, B q → A q) : vx_L C n d B U H := by
  obtain ⟨c, k, i, f, a, cell, h1, h2, h3, h4, h5, h6, h7, h8, h9, h10⟩ := h
  exact ⟨c, k, i, f, a, cell, h1, h2, h3, h4, h5, h6, h7, h8, h9, fun z => h10 (hAB _ z)⟩
theorem vx_L.word {C n d : String} {A : Nat → Prop} {s : State} {args : Array Value} (h : vx_L C n d A s s.heap) : (Cond.laysStatic C n d).before args s = true := by
  obtain ⟨c, k, i, f, a, cell, h1, h2, h3, h4, h5, h6, h7, h8, h9, -⟩ := h
  show (Cond.laysStatic C n d).holds args s none s [] = true
  exact Cond.laysStatic_of h1 h2 h3 h4 h5 h6 h7 h8 h9
/-- .. and what it holds: null or some reference -/
def vx_Zq (C n d : String) (A : Nat → Prop) (U : State) (H : Heap) : Prop := va_Zq C n d A U H ∧ vx_L C n d A U H
theorem vx_Zq.moved {C n d : String} {A : Nat → Prop} {u U : State} {H : Heap} (hvm : u.vm.Alike U.vm) (h : vx_Zq C n d A u H) : vx_Zq C n d A U H := ⟨va_Zq.moved hvm h.1, vx_L.moved hvm h.2⟩
theorem vx_Zq.kept {C n d : String} {A : Nat → Prop} {U : State} {H H1 : Heap} (h : vx_Zq C n d A U H) (hq : ∀ a : Nat, a < H.size → ¬ A a → H1[a]? = H[a]?) : vx_Zq C n d A U H1 := ⟨va_Zq.kept h.1 hq, vx_L.kept h.2 hq⟩
theorem vx_Zq.narrow {C n d : String} {A B : Nat → Prop} {U : State} {H : Heap} (h : vx_Zq C n d A U H) (hAB : ∀ q, B q → A q) : vx_Zq C n d B U H := ⟨va_Zq.narrow h.1 hAB, vx_L.narrow h.2 hAB⟩
theorem vx_Zqof {args : Array Value} {s : State} {C n d : String} {A : Nat → Prop} (hl : (Cond.laysStatic C n d).before args s = true) (hini : (Cond.initialized C).before args s = true) (h : (Cond.isRef (.static C n d)).before args s = true) (hA : ∀ a : Nat, a < s.heap.size → ¬ A a) : vx_Zq C n d A s s.heap := by
  refine ⟨va_Zqof hl hini h hA, ?_⟩
  obtain ⟨c, k, i, f, a, cell, h1, h2, h3, h4, h5, h6, h7, h8, h9⟩ := Cond.laysStatic_spec hl
  exact ⟨c, k, i, f, a, cell, h1, h2, h3, h4, h5, h6, h7, h8, h9, hA a (Array.getElem?_eq_some_iff.mp h5).1⟩
theorem vx_isRef {C n d : String} {v : Value} {A : Nat → Prop} {s : State} {args : Array Value} (h : va_Z C n d v A s s.heap) (hv : v.isRef = true) : (Cond.isRef (.static C n d)).before args s = true := by
  obtain ⟨cf, kf, fi, f, a, cell, h1, h2, h3, h4, h5, h6, h7, -⟩ := h
  have he : (Term.static C n d).eval args s none [] s = some v := by
    simp [Term.eval, State.fieldNamed?, h1, h2, h4, h5, h6, h7]
  simp only [Cond.before, Cond.holds, Cond.value, he]
  cases v <;> simp_all [Value.isRef]
theorem vx_isRefq {C n d : String} {A : Nat → Prop} {s : State} {args : Array Value} (h : va_Zq C n d A s s.heap) : (Cond.isRef (.static C n d)).before args s = true := by
  rcases h with h | ⟨t, h⟩
  · exact vx_isRef h rfl
  · exact vx_isRef h rfl
/-- the same frame, seen from here: as if the method were called anew in this heap -/
theorem vx_rebase {T : State} (X : Stand p l e R s m args below meth c T locs cells slots) {R' : Room} (hf : R'.frames ≤ R.frames) (hl : R'.locals ≤ R.locals) (hc : cells + R'.cells ≤ R.cells) (hs : slots + R'.slots ≤ R.slots) :
    Stand p l e R' ((T.setVm s.vm).setFrames (.invoking m args :: below)) m args below meth c T [] 0 0 := by
  have htop : (T.setVm s.vm).topJava?.isSome := X.here.top
  have hF : ((T.setVm s.vm).setFrames (.invoking m args :: below)).frames = .invoking m args :: below := State.frames_setFrames _ (State.cur_lt_of_top htop)
  obtain ⟨g₀, hg0⟩ := Option.isSome_iff_exists.mp htop
  obtain ⟨r, hr⟩ := State.topJava?_eq_some.mp hg0
  have hl9 : e.platform.stackLimits (T.setVm s.vm).me = e.platform.stackLimits s.me := X.limits
  have hb9 : (T.setVm s.vm).me.stackBytes = s.me.stackBytes := X.bytes
  refine ⟨X.admits, X.cas, X.clock, hF, ?_, X.hears, X.method, X.code, X.here, X.tail, X.warmed, ?_, ?_, ?_⟩
  · have h := X.room
    have hU : ((T.setVm s.vm).setFrames (.invoking m args :: below)).localsInUse = s.localsInUse := by
      rw [State.localsInUse_invoking hF (meth := meth) (c := c) X.method X.code, State.localsInUse_invoking X.frames X.method X.code]
    simp only [State.hasRoom, Bool.and_eq_true, decide_eq_true_eq] at h ⊢
    obtain ⟨⟨⟨⟨h1, h2, h3, h4, h5, h6⟩, h7⟩, h8⟩, h9⟩ := h
    rw [X.frames, List.length_cons] at h2 h3
    have q1 := X.heapSize
    have q2 := X.used
    simp only [hF, hU, List.length_cons, State.stackLimits_setFrames, State.stackBytes_setFrames, hl9, hb9]
    refine ⟨⟨⟨⟨by omega, by omega, by omega, by omega, by omega, h6⟩, ?_⟩, ?_⟩, X.book⟩
    · show T.heap.size + R'.cells ≤ e.platform.maxCells
      omega
    · show T.slotsUsed + R'.slots ≤ e.platform.maxSlots
      omega
  · rw [State.stackLimits_setFrames]; rfl
  · rw [State.stackBytes_setFrames]; rfl
  · refine ⟨?_, Nat.le_refl _, Nat.le_refl _, ?_, ?_, fun a c9 h9 => ⟨c9, h9, rfl, rfl, fun _ _ => rfl⟩⟩
    · obtain ⟨t, ht, -⟩ := State.frames_cons hr
      show T.setVm s.vm = { ((T.setVm s.vm).setFrames (.invoking m args :: below)).setFrames (T.setVm s.vm).frames with heap := T.heap, slotsUsed := T.slotsUsed }
      rw [State.setFrames_setFrames, State.setFrames_self ht]
      rfl
    · show T.slotsUsed = T.slotsUsed + ((T.heap.toList.drop T.heap.size).map (·.slots.size)).sum
      rw [List.drop_eq_nil_of_le (Nat.le_of_eq Array.length_toList)]
      rfl
    · show ((T.heap.toList.drop T.heap.size).map (·.slots.size)).sum ≤ 0
      rw [List.drop_eq_nil_of_le (Nat.le_of_eq Array.length_toList)]
      exact Nat.le_refl _
/-- 'throw new E()': new; dup; invokespecial; athrow -/
theorem vx_throw0 {cc : ByteArray} {pc : Nat} (hexec : p.tables.exec = Jvm.exec) (hb : c.code = cc) (hl : l.stackTraces = false) {own cls : String} {names : List String} {ik ic mc ms : Nat} {A : Nat → Prop}
    (hown : s.vm.findClass own = some m.cls) (hcls : Bundle.fit cls = true) (hnames : ∀ n ∈ names, Bundle.fit n = true)
    (hk : (Cond.classLink own ik cls).before args s = true) (hini : (Cond.initialized cls).before args s = true) (hat : ∀ w ∈ vx_at0 own ic cls names, w.before args s = true)
    (hgood : ∀ w ∈ Cond.classLink own ik cls :: Cond.initialized cls :: vx_at0 own ic cls names, vx_ot w = true)
    (hU : vx_Zq Bundle.tN "UNASSIGNED_STACK" Bundle.steD A s s.heap) (hN : vx_Zq Bundle.tN "SUPPRESSED_SENTINEL" Bundle.listD A s s.heap) (hS : va_S A s.heap H locs) (hsize : ls.size = c.maxLocals)
    (d0 : decode cc pc = .ok (.new ik, 3)) (d3 : decode cc (pc + 3) = .ok (.dup, 1)) (d4 : decode cc (pc + 4) = .ok (.invokespecial ic, 3)) (d7 : decode cc (pc + 7) = .ok (.athrow, 1))
    (hout : ∀ x ∈ c.exceptionTable.toList, covers x (pc + 7) = false)
    (hRframes : names.length + 3 < R.frames) (hRlocals : (rest.map fun v => v.category).sum + (13 * (names.length + 1) + 42) ≤ R.locals) (hRcells : cells + 1 ≤ R.cells) (hRslots : slots + 6 ≤ R.slots) (hlocks : meth.locks = false)
    (hx : ∀ t : State, s.vm.Alike t.vm → H.size ≤ t.heap.size → (∀ q : Nat, q < H.size → t.heap[q]? = H[q]?) → XC cls s t)
    (hf : ∀ z ∈ locs, free z.base) (hc : cells + 1 ≤ mc) (hs : slots + 6 ≤ ms) :
    W p l e R s m args below meth c H locs cells slots (vx_MQ below Qc XC args s mc ms free) (F0 m pc ls rest) := by
  intro T hT X
  have htr : e.platform.stackTraces = false := (show e.platform.stackTraces = l.stackTraces by rw [X.admits.platform]).trans hl
  have Y := vx_rebase X (R' := { frames := R.frames, locals := R.locals, cells := 1, slots := 6 }) (Nat.le_refl _) (Nat.le_refl _) hRcells hRslots
  obtain ⟨s', hA⟩ : ∃ z, z = (T.setVm s.vm).setFrames (.invoking m args :: below) := ⟨_, rfl⟩
  rw [← hA] at Y
  have hvm : s'.vm = s.vm := by rw [hA]; rfl
  have hhp : s'.heap = H := by rw [hA]; exact hT
  have hW0 : s.WarmedH s'.vm := by rw [hvm]; exact State.WarmedH.refl s
  have hat' : ∀ w ∈ vx_at0 own ic cls names, w.before args s' = true := fun w hw => vx_ot_at hW0 hvm.symm (hgood w (List.mem_cons_of_mem _ (List.mem_cons_of_mem _ hw))) (hat w hw)
  have hk' : (Cond.classLink own ik cls).before args s' = true := vx_ot_at hW0 hvm.symm (hgood _ List.mem_cons_self) hk
  have hini' : (Cond.initialized cls).before args s' = true := vx_ot_at hW0 hvm.symm (hgood _ (List.mem_cons_of_mem _ List.mem_cons_self)) hini
  have hU' : vx_Zq Bundle.tN "UNASSIGNED_STACK" Bundle.steD A s' s'.heap := by rw [hhp]; exact vx_Zq.moved hW0.alike (hU.kept hS.2.1)
  have hN' : vx_Zq Bundle.tN "SUPPRESSED_SENTINEL" Bundle.listD A s' s'.heap := by rw [hhp]; exact vx_Zq.moved hW0.alike (hN.kept hS.2.1)
  have h : ∀ w ∈ Bundle.ownAtoms0 own ic cls names, w.before args s' = true := vx_own hat' (vx_isRefq hU'.1) (vx_isRefq hN'.1) hU'.2.word hN'.2.word
  have hown' : s'.vm.findClass own = some m.cls := by rw [hvm]; exact hown
  have hins : (Cond.instantiable cls 6).before args s' = true := h _ (by simp [Bundle.ownAtoms0])
  obtain ⟨vm₁, cX, kX, hfX, hkX, -, -, X₁, st1⟩ := Y.newCold hexec (own := own) (C := cls) (index := ik) (n := 6) hown' hk' hins hini'
    (g := F0 m pc ls rest) rfl (by rw [hb]; exact d0) (Nat.le_refl _) (Nat.le_refl _)
  generalize hT1 : (T.setVm vm₁).pushCell { cls := cX, slots := kX.instanceTypes.map defaultValue, vm := .none } = T1 at X₁ st1
  have hcat : (Value.ref T.heap.size).category = 1 := rfl
  have hcellA : T1.heap[T.heap.size]? = some (freshCell cX kX) := by rw [← hT1]; exact State.heap_pushCell_size _ _
  have d3' : decode c.code (pc + 3) = .ok (.dup, 1) := by rw [hb]; exact d3
  obtain ⟨U, hsteps, hrun, hend, hW, hsame, ce, hce, hO⟩ := X₁.ctorThrow0 hexec htr (own := own) (cls := cls) (names := names) (ic := ic) hown' hcls hnames h (fun x hx => nomatch hx) hfX hkX hcellA (by rw [hhp, hT]; exact Nat.le_refl _)
    (g := { method := m, pc := pc + 4, locals := ls, stack := .ref T.heap.size :: .ref T.heap.size :: rest, locked := none }) rfl hsize rfl rfl (rest := rest) rfl
    (by rw [hb]; exact d4) (by rw [hb]; exact d7) hout hRframes (by simp only [List.map_cons, List.sum_cons, hcat]; omega) hlocks
  obtain ⟨f1, f2⟩ := vx_frame hsame
  rw [hhp] at f1 f2
  have hWs : s.WarmedH U.vm := State.WarmedH.trans hW0 hW
  have hcl : s.vm.findClass cls = some ce.cls := by
    have h9 := hO.cls
    rw [hvm] at h9
    exact h9
  have hall : s.sameButNew ({ U with vm := s.vm } : State) locs mc ms := by
    subst hA
    obtain ⟨e1, e2⟩ := hsame
    rw [State.setFrames_setFrames] at e1
    have h2 : (T.setVm s.vm).sameButNew ({ U with vm := s.vm } : State) [] (0 + 1) (0 + 6) := ⟨e1, e2⟩
    have h3 := X.same.trans h2
    rw [List.append_nil] at h3
    exact h3.mono hc hs
  refine ⟨U, ?_, .threw T.heap.size, hrun, hend, Or.inr ⟨T.heap.size, rfl, cls, ce, locs, hx U hWs.alike f1 (fun q hq => f2 q hq (fun z hz => nomatch hz)), hce, hO.vm, hcl, hWs, hall, hf⟩⟩
  refine st1 _ ?_
  show Steps p.tables e below (T1.setTop { method := m, pc := pc + 3, locals := ls, stack := .ref T.heap.size :: rest, locked := none }) _
  jvm_step X₁.here [X₁.here.top, hexec, d3', Value.category]
  exact hsteps
/-- 'throw new E("text")': new; dup; ldc; invokespecial; athrow -/
theorem vx_throwS {cc : ByteArray} {pc : Nat} (hexec : p.tables.exec = Jvm.exec) (hb : c.code = cc) (hl : l.stackTraces = false) {own cls text : String} {names : List String} {ik is ic mc ms sa : Nat} {A : Nat → Prop}
    (hown : s.vm.findClass own = some m.cls) (hcls : Bundle.fit cls = true) (hnames : ∀ n ∈ names, Bundle.fit n = true)
    (hk : (Cond.classLink own ik cls).before args s = true) (hini : (Cond.initialized cls).before args s = true) (hstr : vk_R own is text sa s) (hat : ∀ w ∈ vx_atS own ic cls names, w.before args s = true)
    (hgood : ∀ w ∈ Cond.classLink own ik cls :: Cond.initialized cls :: vx_atS own ic cls names, vx_ot w = true)
    (hU : vx_Zq Bundle.tN "UNASSIGNED_STACK" Bundle.steD A s s.heap) (hN : vx_Zq Bundle.tN "SUPPRESSED_SENTINEL" Bundle.listD A s s.heap) (hS : va_S A s.heap H locs) (hsize : ls.size = c.maxLocals)
    (d0 : decode cc pc = .ok (.new ik, 3)) (d3 : decode cc (pc + 3) = .ok (.dup, 1)) (d4 : decode cc (pc + 4) = .ok (.ldc is, 2)) (d6 : decode cc (pc + 6) = .ok (.invokespecial ic, 3)) (d9 : decode cc (pc + 9) = .ok (.athrow, 1))
    (hout : ∀ x ∈ c.exceptionTable.toList, covers x (pc + 9) = false)
    (hRframes : names.length + 3 < R.frames) (hRlocals : (rest.map fun v => v.category).sum + (13 * (names.length + 1) + 43) ≤ R.locals) (hRcells : cells + 1 ≤ R.cells) (hRslots : slots + 6 ≤ R.slots) (hlocks : meth.locks = false)
    (hx : ∀ t : State, s.vm.Alike t.vm → H.size ≤ t.heap.size → (∀ q : Nat, q < H.size → t.heap[q]? = H[q]?) → XC cls s t)
    (hf : ∀ z ∈ locs, free z.base) (hc : cells + 1 ≤ mc) (hs : slots + 6 ≤ ms) :
    W p l e R s m args below meth c H locs cells slots (vx_MQ below Qc XC args s mc ms free) (F0 m pc ls rest) := by
  intro T hT X
  have htr : e.platform.stackTraces = false := (show e.platform.stackTraces = l.stackTraces by rw [X.admits.platform]).trans hl
  have Y := vx_rebase X (R' := { frames := R.frames, locals := R.locals, cells := 1, slots := 6 }) (Nat.le_refl _) (Nat.le_refl _) hRcells hRslots
  obtain ⟨s', hA⟩ : ∃ z, z = (T.setVm s.vm).setFrames (.invoking m args :: below) := ⟨_, rfl⟩
  rw [← hA] at Y
  have hvm : s'.vm = s.vm := by rw [hA]; rfl
  have hhp : s'.heap = H := by rw [hA]; exact hT
  have hW0 : s.WarmedH s'.vm := by rw [hvm]; exact State.WarmedH.refl s
  have hat' : ∀ w ∈ vx_atS own ic cls names, w.before args s' = true := fun w hw => vx_ot_at hW0 hvm.symm (hgood w (List.mem_cons_of_mem _ (List.mem_cons_of_mem _ hw))) (hat w hw)
  have hk' : (Cond.classLink own ik cls).before args s' = true := vx_ot_at hW0 hvm.symm (hgood _ List.mem_cons_self) hk
  have hini' : (Cond.initialized cls).before args s' = true := vx_ot_at hW0 hvm.symm (hgood _ (List.mem_cons_of_mem _ List.mem_cons_self)) hini
  have hU' : vx_Zq Bundle.tN "UNASSIGNED_STACK" Bundle.steD A s' s'.heap := by rw [hhp]; exact vx_Zq.moved hW0.alike (hU.kept hS.2.1)
  have hN' : vx_Zq Bundle.tN "SUPPRESSED_SENTINEL" Bundle.listD A s' s'.heap := by rw [hhp]; exact vx_Zq.moved hW0.alike (hN.kept hS.2.1)
  have h : ∀ w ∈ Bundle.ownAtoms own ic cls names, w.before args s' = true := vx_own hat' (vx_isRefq hU'.1) (vx_isRefq hN'.1) hU'.2.word hN'.2.word
  have hown' : s'.vm.findClass own = some m.cls := by rw [hvm]; exact hown
  have hins : (Cond.instantiable cls 6).before args s' = true := h _ (by simp [Bundle.ownAtoms])
  obtain ⟨vm₁, cX, kX, hfX, hkX, -, -, X₁, st1⟩ := Y.newCold hexec (own := own) (C := cls) (index := ik) (n := 6) hown' hk' hins hini'
    (g := F0 m pc ls rest) rfl (by rw [hb]; exact d0) (Nat.le_refl _) (Nat.le_refl _)
  generalize hT1 : (T.setVm vm₁).pushCell { cls := cX, slots := kX.instanceTypes.map defaultValue, vm := .none } = T1 at X₁ st1
  have hcat : (Value.ref T.heap.size).category = 1 := rfl
  have hcellA : T1.heap[T.heap.size]? = some (freshCell cX kX) := by rw [← hT1]; exact State.heap_pushCell_size _ _
  have d3' : decode c.code (pc + 3) = .ok (.dup, 1) := by rw [hb]; exact d3
  have d4' : decode c.code (pc + 4) = .ok (.ldc is, 2) := by rw [hb]; exact d4
  have hstr' : vk_R own is text sa s' := vk_R.warm hW0 hstr
  obtain ⟨U, hsteps, hrun, hend, hW, hsame, ce, hce, hO⟩ := X₁.ctorThrowS hexec htr (own := own) (cls := cls) (names := names) (ic := ic) hown' hcls hnames h (fun x hx => nomatch hx) hfX hkX hcellA (by rw [hhp, hT]; exact Nat.le_refl _) (msg := .ref sa) rfl
    (g := { method := m, pc := pc + 6, locals := ls, stack := .ref sa :: .ref T.heap.size :: .ref T.heap.size :: rest, locked := none }) rfl hsize rfl rfl (rest := rest) rfl
    (by rw [hb]; exact d6) (by rw [hb]; exact d9) hout hRframes (by simp only [List.map_cons, List.sum_cons, hcat]; omega) hlocks
  obtain ⟨f1, f2⟩ := vx_frame hsame
  rw [hhp] at f1 f2
  have hWs : s.WarmedH U.vm := State.WarmedH.trans hW0 hW
  have hcl : s.vm.findClass cls = some ce.cls := by
    have h9 := hO.cls
    rw [hvm] at h9
    exact h9
  have hall : s.sameButNew ({ U with vm := s.vm } : State) locs mc ms := by
    subst hA
    obtain ⟨e1, e2⟩ := hsame
    rw [State.setFrames_setFrames] at e1
    have h2 : (T.setVm s.vm).sameButNew ({ U with vm := s.vm } : State) [] (0 + 1) (0 + 6) := ⟨e1, e2⟩
    have h3 := X.same.trans h2
    rw [List.append_nil] at h3
    exact h3.mono hc hs
  refine ⟨U, ?_, .threw T.heap.size, hrun, hend, Or.inr ⟨T.heap.size, rfl, cls, ce, locs, hx U hWs.alike f1 (fun q hq => f2 q hq (fun z hz => nomatch hz)), hce, hO.vm, hcl, hWs, hall, hf⟩⟩
  refine st1 _ ?_
  show Steps p.tables e below (T1.setTop { method := m, pc := pc + 3, locals := ls, stack := .ref T.heap.size :: rest, locked := none }) _
  jvm_step X₁.here [X₁.here.top, hexec, d3', Value.category]
  exact X₁.ldcString hexec (own := own) (text := text) (index := is) (a := sa) hown' hstr'.1 hstr'.2
    (g := { method := m, pc := pc + 4, locals := ls, stack := .ref T.heap.size :: .ref T.heap.size :: rest, locked := none }) rfl d4' _ hsteps
/-- 'throw new E("text")', the text by a wide index -/
theorem vx_throwSW {cc : ByteArray} {pc : Nat} (hexec : p.tables.exec = Jvm.exec) (hb : c.code = cc) (hl : l.stackTraces = false) {own cls text : String} {names : List String} {ik is ic mc ms sa : Nat} {A : Nat → Prop}
    (hown : s.vm.findClass own = some m.cls) (hcls : Bundle.fit cls = true) (hnames : ∀ n ∈ names, Bundle.fit n = true)
    (hk : (Cond.classLink own ik cls).before args s = true) (hini : (Cond.initialized cls).before args s = true) (hstr : vk_R own is text sa s) (hat : ∀ w ∈ vx_atS own ic cls names, w.before args s = true)
    (hgood : ∀ w ∈ Cond.classLink own ik cls :: Cond.initialized cls :: vx_atS own ic cls names, vx_ot w = true)
    (hU : vx_Zq Bundle.tN "UNASSIGNED_STACK" Bundle.steD A s s.heap) (hN : vx_Zq Bundle.tN "SUPPRESSED_SENTINEL" Bundle.listD A s s.heap) (hS : va_S A s.heap H locs) (hsize : ls.size = c.maxLocals)
    (d0 : decode cc pc = .ok (.new ik, 3)) (d3 : decode cc (pc + 3) = .ok (.dup, 1)) (d4 : decode cc (pc + 4) = .ok (.ldc_w is, 3)) (d7 : decode cc (pc + 7) = .ok (.invokespecial ic, 3)) (d10 : decode cc (pc + 10) = .ok (.athrow, 1))
    (hout : ∀ x ∈ c.exceptionTable.toList, covers x (pc + 10) = false)
    (hRframes : names.length + 3 < R.frames) (hRlocals : (rest.map fun v => v.category).sum + (13 * (names.length + 1) + 43) ≤ R.locals) (hRcells : cells + 1 ≤ R.cells) (hRslots : slots + 6 ≤ R.slots) (hlocks : meth.locks = false)
    (hx : ∀ t : State, s.vm.Alike t.vm → H.size ≤ t.heap.size → (∀ q : Nat, q < H.size → t.heap[q]? = H[q]?) → XC cls s t)
    (hf : ∀ z ∈ locs, free z.base) (hc : cells + 1 ≤ mc) (hs : slots + 6 ≤ ms) :
    W p l e R s m args below meth c H locs cells slots (vx_MQ below Qc XC args s mc ms free) (F0 m pc ls rest) := by
  intro T hT X
  have htr : e.platform.stackTraces = false := (show e.platform.stackTraces = l.stackTraces by rw [X.admits.platform]).trans hl
  have Y := vx_rebase X (R' := { frames := R.frames, locals := R.locals, cells := 1, slots := 6 }) (Nat.le_refl _) (Nat.le_refl _) hRcells hRslots
  obtain ⟨s', hA⟩ : ∃ z, z = (T.setVm s.vm).setFrames (.invoking m args :: below) := ⟨_, rfl⟩
  rw [← hA] at Y
  have hvm : s'.vm = s.vm := by rw [hA]; rfl
  have hhp : s'.heap = H := by rw [hA]; exact hT
  have hW0 : s.WarmedH s'.vm := by rw [hvm]; exact State.WarmedH.refl s
  have hat' : ∀ w ∈ vx_atS own ic cls names, w.before args s' = true := fun w hw => vx_ot_at hW0 hvm.symm (hgood w (List.mem_cons_of_mem _ (List.mem_cons_of_mem _ hw))) (hat w hw)
  have hk' : (Cond.classLink own ik cls).before args s' = true := vx_ot_at hW0 hvm.symm (hgood _ List.mem_cons_self) hk
  have hini' : (Cond.initialized cls).before args s' = true := vx_ot_at hW0 hvm.symm (hgood _ (List.mem_cons_of_mem _ List.mem_cons_self)) hini
  have hU' : vx_Zq Bundle.tN "UNASSIGNED_STACK" Bundle.steD A s' s'.heap := by rw [hhp]; exact vx_Zq.moved hW0.alike (hU.kept hS.2.1)
  have hN' : vx_Zq Bundle.tN "SUPPRESSED_SENTINEL" Bundle.listD A s' s'.heap := by rw [hhp]; exact vx_Zq.moved hW0.alike (hN.kept hS.2.1)
  have h : ∀ w ∈ Bundle.ownAtoms own ic cls names, w.before args s' = true := vx_own hat' (vx_isRefq hU'.1) (vx_isRefq hN'.1) hU'.2.word hN'.2.word
  have hown' : s'.vm.findClass own = some m.cls := by rw [hvm]; exact hown
  have hins : (Cond.instantiable cls 6).before args s' = true := h _ (by simp [Bundle.ownAtoms])
  obtain ⟨vm₁, cX, kX, hfX, hkX, -, -, X₁, st1⟩ := Y.newCold hexec (own := own) (C := cls) (index := ik) (n := 6) hown' hk' hins hini'
    (g := F0 m pc ls rest) rfl (by rw [hb]; exact d0) (Nat.le_refl _) (Nat.le_refl _)
  generalize hT1 : (T.setVm vm₁).pushCell { cls := cX, slots := kX.instanceTypes.map defaultValue, vm := .none } = T1 at X₁ st1
  have hcat : (Value.ref T.heap.size).category = 1 := rfl
  have hcellA : T1.heap[T.heap.size]? = some (freshCell cX kX) := by rw [← hT1]; exact State.heap_pushCell_size _ _
  have d3' : decode c.code (pc + 3) = .ok (.dup, 1) := by rw [hb]; exact d3
  have d4' : decode c.code (pc + 4) = .ok (.ldc_w is, 3) := by rw [hb]; exact d4
  have hstr' : vk_R own is text sa s' := vk_R.warm hW0 hstr
  obtain ⟨U, hsteps, hrun, hend, hW, hsame, ce, hce, hO⟩ := X₁.ctorThrowS hexec htr (own := own) (cls := cls) (names := names) (ic := ic) hown' hcls hnames h (fun x hx => nomatch hx) hfX hkX hcellA (by rw [hhp, hT]; exact Nat.le_refl _) (msg := .ref sa) rfl
    (g := { method := m, pc := pc + 7, locals := ls, stack := .ref sa :: .ref T.heap.size :: .ref T.heap.size :: rest, locked := none }) rfl hsize rfl rfl (rest := rest) rfl
    (by rw [hb]; exact d7) (by rw [hb]; exact d10) hout hRframes (by simp only [List.map_cons, List.sum_cons, hcat]; omega) hlocks
  obtain ⟨f1, f2⟩ := vx_frame hsame
  rw [hhp] at f1 f2
  have hWs : s.WarmedH U.vm := State.WarmedH.trans hW0 hW
  have hcl : s.vm.findClass cls = some ce.cls := by
    have h9 := hO.cls
    rw [hvm] at h9
    exact h9
  have hall : s.sameButNew ({ U with vm := s.vm } : State) locs mc ms := by
    subst hA
    obtain ⟨e1, e2⟩ := hsame
    rw [State.setFrames_setFrames] at e1
    have h2 : (T.setVm s.vm).sameButNew ({ U with vm := s.vm } : State) [] (0 + 1) (0 + 6) := ⟨e1, e2⟩
    have h3 := X.same.trans h2
    rw [List.append_nil] at h3
    exact h3.mono hc hs
  refine ⟨U, ?_, .threw T.heap.size, hrun, hend, Or.inr ⟨T.heap.size, rfl, cls, ce, locs, hx U hWs.alike f1 (fun q hq => f2 q hq (fun z hz => nomatch hz)), hce, hO.vm, hcl, hWs, hall, hf⟩⟩
  refine st1 _ ?_
  show Steps p.tables e below (T1.setTop { method := m, pc := pc + 3, locals := ls, stack := .ref T.heap.size :: rest, locked := none }) _
  jvm_step X₁.here [X₁.here.top, hexec, d3', Value.category]
  exact X₁.ldcStringW hexec (own := own) (text := text) (index := is) (a := sa) hown' hstr'.1 hstr'.2
    (g := { method := m, pc := pc + 4, locals := ls, stack := .ref T.heap.size :: .ref T.heap.size :: rest, locked := none }) rfl d4' _ hsteps
end Ends
section Bodies
variable {l : Launch}
theorem vx_ofW {y : MethodName} {ws ws' : List Cond} {rm : Room} {Pc : Array Value → State → Prop} {Qc : Array Value → State → Outcome → State → Prop} {XC : String → State → State → Prop} {mc ms : Nat} {free : Addr → Prop} {cc : ByteArray} {maxL : Nat} {ret : Option FieldType}
    (hy : plainName y.cls = true) (hw : ws = Cond.code y cc maxL ret :: ws')
    (body : ∀ p e s m args below meth c s₁, BodyLoose p l y (headSpec ws rm) cc maxL ret e s m args below meth c s₁ → c.maxLocals = maxL → (∀ x ∈ c.exceptionTable.toList, False) → Pc args s →
      W p l e (headSpec ws rm).room s m args below meth c s.heap [] 0 0 (vx_MQ below Qc XC args s mc ms free) (entryFrame m args maxL)) : vx_Met l y ws rm Pc Qc XC mc ms free := by
  refine MetFree.of_bodyS (code := cc) (maxLocals := maxL) (ret := ret) hy ?_ ?_
  · intro args s m h hn
    obtain ⟨meth, c, h1, h2, h3, h4, h5, h6, -, -⟩ := Cond.code_spec hn (atoms_spec (ws := ws) h _ (by rw [hw]; exact List.mem_cons_self))
    exact ⟨meth, c, h1, h2, h3, h4, h5, h6⟩
  · intro p e s m args below meth c s₁ B hml hP _
    have hh0 : s₁.heap = s.heap := by rw [B.state]; rfl
    have ht : ∀ x ∈ c.exceptionTable.toList, False := by
      obtain ⟨meth9, c9, h1, h2, -, -, -, -, h7, -⟩ := Cond.code_spec B.named (atoms_spec (ws := ws) B.pre _ (by rw [hw]; exact List.mem_cons_self))
      cases Option.some.inj (h1.symm.trans B.method)
      cases Option.some.inj (h2.symm.trans (Stand.of_body B).code)
      intro x hx
      rw [Array.isEmpty_iff.mp h7] at hx
      cases hx
    obtain ⟨t, a1, o, b1, b2, b3⟩ := body p e s m args below meth c s₁ B hml ht hP s₁ hh0 (Stand.of_body B)
    exact ⟨t, o, a1, b1, b2, b3⟩
/-- the table of a body with handlers -/
theorem vx_table {p : Program} {x y : MethodName} {S : Spec} {cc bytes : ByteArray} {maxL maxL' : Nat} {ret ret' : Option FieldType} {e : Env} {s s₁ : State} {m : MethodId} {args : Array Value} {below : List Frame} {meth : Method} {c : Code} {hh : List (Nat × Nat × Nat × Nat)}
    (B : BodyLoose p l y S cc maxL ret e s m args below meth c s₁) (h : (Cond.codeWith y bytes maxL' ret' hh).before args s = true) : c.exceptionTable.toList = tableOf hh := by
  obtain ⟨m9, meth9, c9, hn9, h1, h2, -, -, h6, -⟩ := Cond.codeWith_spec h
  cases Option.some.inj (hn9.symm.trans B.named)
  cases Option.some.inj (h1.symm.trans B.method)
  cases Option.some.inj (h2.symm.trans (Stand.of_body B).code)
  rw [← h6, table_eq]
end Bodies
end VXA
/-! ===== END ===== -/
/-! ===== BEGIN a static call of a method with an exception table ===== -/
section VXS
variable {p : Program} {l : Launch} {e : Env} {R : Room} {s : State} {m : MethodId} {args : Array Value} {below : List Frame} {meth : Method} {c : Code} {T : State} {H : Heap} {locs : List Loc} {cells slots : Nat}
abbrev vx_CSW (R : Room) (s : State) (args : Array Value) (own : String) (index : Nat) (y : MethodName) (bytes : ByteArray) (maxL : Nat) (ret : Option FieldType) (hh : List (Nat × Nat × Nat × Nat)) (ws : List Cond) (rm : Room) (mc ms n : Nat) : Prop :=
  (rm.cells = mc ∧ rm.slots = ms ∧ rm.frames + 1 ≤ R.frames ∧ 8 + (maxL + 11) + rm.locals ≤ R.locals ∧ (∀ w ∈ ws, ∀ (a' : Array Value) (U : State), s.WarmedH U.vm → w.before a' U = true) ∧ Cond.codeWith y bytes maxL ret hh ∈ ws) ∧
  (Cond.codeWith y bytes maxL ret hh).before args s = true ∧ (Cond.initialized y.cls).before args s = true ∧ (y.cls ≠ "java/lang/invoke/MethodHandle" ∧ y.cls ≠ "java/lang/invoke/VarHandle") ∧
  (∀ sig, parseMethodDescriptor y.desc = some sig → n = sig.parameters.length) ∧ (Cond.methodLink own index y).before args s = true ∧ (Cond.static y).before args s = true
theorem vx_cwSW {own : String} {index maxL mc ms : Nat} {y : MethodName} {bytes : ByteArray} {ret : Option FieldType} {hh : List (Nat × Nat × Nat × Nat)} {Ts ws ws' : List Cond} {rm : Room} (n : Nat) (ht : ∀ w ∈ Ts, w.before args s = true) (hT : GoodIn Ts (va_wsS own index y ws)) (hw : ws = Cond.codeWith y bytes maxL ret hh :: ws') (hrc : rm.cells = mc) (hrs : rm.slots = ms)
    (hd : y.cls ≠ "java/lang/invoke/MethodHandle" ∧ y.cls ≠ "java/lang/invoke/VarHandle" ∧ (parseMethodDescriptor y.desc).map (fun d => d.parameters.length) = some n) (hR : rm.frames + 1 ≤ R.frames ∧ 8 + (maxL + 11) + rm.locals ≤ R.locals) :
    vx_CSW R s args own index y bytes maxL ret hh ws rm mc ms n := by
  have ok : ∀ w ∈ va_wsS own index y ws, w.before args s = true := fun w h => ht w (hT w h).1
  have hG : GoodIn Ts ws := fun w h => hT w (by unfold va_wsS; exact List.mem_append_right _ h)
  have hc : Cond.codeWith y bytes maxL ret hh ∈ ws := by rw [hw]; exact List.mem_cons_self
  refine ⟨⟨hrc, hrs, hR.1, hR.2, pay_in ht hG, hc⟩, ht _ (hG _ hc).1, ok _ (by simp [va_wsS]), ⟨hd.1, hd.2.1⟩, fun sig h => ?_, ok _ (by simp [va_wsS]), ok _ (by simp [va_wsS])⟩
  have h2 := hd.2.2
  rw [h] at h2
  exact (Option.some.inj h2).symm
theorem vx_callSW (X : Stand p l e R s m args below meth c T locs cells slots) (hexec : p.tables.exec = Jvm.exec) {own : String} {index : Nat} {y : MethodName} {bytes : ByteArray} {maxL : Nat} {ret : Option FieldType} {hh : List (Nat × Nat × Nat × Nat)}
    (hown : s.vm.findClass own = some m.cls) (hlink : (Cond.methodLink own index y).before args s = true) (hstat : (Cond.static y).before args s = true) (hinit : (Cond.initialized y.cls).before args s = true)
    (hcode : (Cond.codeWith y bytes maxL ret hh).before args s = true) (hy : y.cls ≠ "java/lang/invoke/MethodHandle" ∧ y.cls ≠ "java/lang/invoke/VarHandle")
    {W9 : Nat} {Pre : Pt → Array Value → Prop} {Post : Pt → Array Value → Option Value → Pt → Prop} (hK : Back l R p e below s args y 3 W9 Pre Post)
    {g : JFrame} (hg : g.method = m) (hsize : g.locals.size = c.maxLocals) {argsL rest : List Value} (hlen : ∀ sig, parseMethodDescriptor y.desc = some sig → argsL.length = sig.parameters.length)
    (hstack : g.stack = argsL.reverse ++ rest) (hW : 2 * g.monitorRoom + (rest.map fun v => v.category).sum ≤ W9) (hdg : decode c.code g.pc = .ok (.invokestatic index, 3))
    (hpre : ∀ vm₁, s.WarmedH vm₁ → Pre ⟨T.setVm vm₁, locs, cells, slots⟩ argsL.toArray) :
    ∃ (v : Option Value) (vm₁ : Vm) (B : Pt), s.WarmedH vm₁ ∧ Stand p l e R s m args below meth c B.U B.locs B.cells B.slots ∧ Post ⟨T.setVm vm₁, locs, cells, slots⟩ argsL.toArray v B ∧
      ∀ target, Steps p.tables e below (B.U.setTop { g with pc := g.pc + 3, stack := v.toList ++ rest }) target → Steps p.tables e below (T.setTop g) target := by
  obtain ⟨mk, methM, cM, hnamed, hmethM, -, -, -, -, -, -, hsigM⟩ := Cond.codeWith_spec hcode
  have hstatic : methM.isStatic = true := Cond.static_spec hnamed hmethM hstat
  obtain ⟨kP, hkP, -⟩ := className_of_methodNamed hnamed
  have hinitP : kP.init = .initialized := Cond.initialized_spec (findClass_of_methodNamed hnamed) hkP hinit
  obtain ⟨vm₁, X₁, hstep₁⟩ := X.invokestatic hexec hown hlink hnamed hmethM hstatic hkP hinitP hy (g := g) hg (argsL := argsL) (rest := rest) (hlen _ hsigM) hstack hdg
  obtain ⟨v, B, X', hpost, hsteps⟩ := hK m meth c ⟨T.setVm vm₁, locs, cells, slots⟩ { g with stack := rest } (.invokestatic index) mk argsL.toArray X₁ hg hsize hdg hW (X₁.named hnamed) (hpre vm₁ X₁.warmed)
  exact ⟨v, vm₁, B, X₁.warmed, X', hpost, fun target h => hstep₁ _ fun acts => by rw [doInvoke_state]; exact hsteps.trans h⟩
theorem vx_runSW {y : MethodName} {bytes cc : ByteArray} {maxL nL mc ms n index : Nat} {ret : Option FieldType} {hh : List (Nat × Nat × Nat × Nat)} {ws : List Cond} {rm : Room} {Pc : Array Value → State → Prop} {Qc : Array Value → State → Outcome → State → Prop} {free : Addr → Prop} {Ts : List Cond} {own : String} {As rest : List Value} {g : JFrame}
    (S : CallFix p m c cc nL s args Ts own) (hM : Met l y ws rm Pc Qc mc ms free) (cw : vx_CSW R s args own index y bytes maxL ret hh ws rm mc ms n) (hp : PreS s H Pc As)
    (hg : g.method = m) (hn : As.length = n) (hsize : g.locals.size = nL) (hstack : g.stack = As.reverse ++ rest) (hW : 2 * g.monitorRoom + (rest.map fun v => v.category).sum ≤ 8) (hdg : decode cc g.pc = .ok (.invokestatic index, 3)) (hf : cells + mc ≤ R.cells ∧ slots + ms ≤ R.slots) :
    va_Run p l e R s m args below meth c H locs cells slots mc ms g rest (Qc As.toArray) (free) := by
  obtain ⟨⟨hrc, hrs, hfr, hlo, hws, hcw⟩, hcode, hini, hy, hlen, hl, hstt⟩ := cw
  have hK : Back l R p e below s args y 3 8 (PreOf R mc ms Pc) (PostOf Qc mc ms free) := va_backW (hh := hh) (bytes := bytes) (maxL := maxL) (ret := ret) hM hp.1 hrc hrs hfr hlo hws hcw (fun a' U hW => word_at hW (Or.inl (by first | rfl | simp [Cond.onTables, Cond.keeps, Cond.steady])) hini)
  obtain ⟨hx, hb, hml, ho, -⟩ := S
  intro T hT X
  obtain ⟨v, vm₁, ⟨U', l2, c2, s2⟩, hW₁, X', ⟨g', mk, t, L, e1, e2, hq, h1, hL, h2, h3⟩, st⟩ := vx_callSW X hx (hh := hh) (bytes := bytes) (maxL := maxL) (ret := ret) ho hl hstt hini hcode hy hK hg (hsize.trans hml.symm) (argsL := As) (rest := rest) (fun sig h => hn.trans (hlen sig h)) hstack hW (by rw [hb]; exact hdg)
    (fun vm₁ hW₁ => ⟨hf.1, hf.2, hp.2 (T.setVm vm₁) hT hW₁⟩)
  dsimp only [Pt.U, Pt.locs, Pt.cells, Pt.slots] at X' e1 e2 h1 h2 h3 st
  subst h1; subst h2; subst h3
  exact ⟨v, (T.setVm vm₁).calling g' mk As.toArray, t, U', L, hT, X', hL, e1, e2, hq, st⟩
/-- not caught here, past rows that name other classes: it goes on to the caller -/
theorem vx_outP {p : Program} {l : Launch} {e : Env} {R : Room} {s : State} {m : MethodId} {args : Array Value} {below : List Frame} {meth : Method} {c : Code} {H : Heap} {locs : List Loc} {cells slots : Nat} {free : Addr → Prop} {ls : Array Slot} {rest : List Value} {Qc : Array Value → State → Outcome → State → Prop} {XC : String → State → State → Prop}
    {pc : Nat} {own E : String} {ce : Cell} {q : Addr} {mc ms : Nat} (hown : s.vm.findClass own = some m.cls) (hlocks : meth.locks = false)
    (hpass : ∀ z ∈ c.exceptionTable.toList, covers z pc = false ∨ (z.catchType ≠ 0 ∧ ∃ nm : String, (Cond.classLink own z.catchType nm).before args s = true ∧ va_Nc E nm s)) (hcell : H[q]? = some ce) (hv : ce.vm = .none) (hcl : s.vm.findClass E = some ce.cls)
    (hx : ∀ t : State, t.heap = H → s.vm.Alike t.vm → XC E s t) (hf : ∀ z ∈ locs, free z.base) (hc : cells ≤ mc) (hs : slots ≤ ms) :
    vx_W p l e R s m args below meth c H locs cells slots (vx_MQ below Qc XC args s mc ms free) (F0 m pc ls rest) q := by
  intro T hT X
  have hpl : e.platform.magicAccessors = ({} : Platform).magicAccessors := by rw [X.admits.platform]
  obtain ⟨vm', hW', X', st⟩ := X.outThrough hlocks q (g := F0 m pc ls rest) rfl rfl rfl (cell := ce) (by rw [hT]; exact hcell) (by rw [hv]; rfl)
    (by obtain ⟨k9, h9, -⟩ := Vm.findClass_spec hcl; exact ⟨k9, h9⟩) (fun z hz => by
      rcases hpass z hz with h | ⟨hz0, nm, hl1, hn1⟩
      · exact Or.inl h
      · obtain ⟨c6, hc6, hcl6⟩ := Cond.classLink_spec hown hl1 e.platform hpl
        obtain ⟨a8, b8, h1, h2, h3⟩ := hn1
        cases Option.some.inj (h1.symm.trans hcl)
        cases Option.some.inj (h2.symm.trans hc6)
        exact Or.inr ⟨hz0, _, hcl6, h3⟩)
  obtain ⟨g₀, hfr⟩ := X'.frames_eq
  have hcell9 : ((T.setVm vm').setFrames (.throwing q :: below)).heap[q]? = some ce := by
    show T.heap[q]? = some ce
    rw [hT]; exact hcell
  have hend : Ended ((T.setVm vm').setFrames (.throwing q :: below)) below (.threw q) := State.frames_setFrames _ (State.cur_lt_of_frames hfr)
  refine ⟨(T.setVm vm').setFrames (.throwing q :: below), ?_, .threw q, X'.here.running, hend, Or.inr ⟨q, rfl, E, ce, locs, hx _ hT (X'.ends _).1.alike, hcell9, hv, hcl, (X'.ends _).1, (X'.ends _).2.mono hc hs, hf⟩⟩
  rw [X.pushThrowing_eq]
  exact st
/-- a thing of a world lies in the heap -/
theorem vx_lt {D : va_G} {cl : List vw_C} {ws : va_W} {H1 : Heap} (h : va_P D cl ws H1) {k : Nat} {q : Nat × va_E} (hk : ws[k]? = some q) : q.1 < H1.size := (h k q hk).lt
end VXS
/-! ===== END ===== -/
/-! ===== BEGIN methods with a table of their own: called by a name, returning or throwing ===== -/
section VXH
/-! vx_backW, vx_callVX, vx_callSX, vx_callVW, vx_runVW, vx_runVX, vx_runSX, vx_ofWH follow the same proofs as their sisters above (Free/Laws.lean, Shelf42/LK1.lean); vx_outP calls Shelf42/NT130.lean (outThrough). -/
section
variable {l : Launch} {R : Room} {p : Program} {e : Env} {below : List Frame} {s : State} {sargs : Array Value} {y : MethodName} {len W9 : Nat}
theorem vx_backW {ws : List Cond} {rm : Room} {Pc : Array Value → State → Prop} {Qc : Array Value → State → Outcome → State → Prop} {XC : String → State → State → Prop} {mc ms : Nat} {free : Addr → Prop} {bytes : ByteArray} {maxL : Nat} {ret : Option FieldType} {hh : List (Nat × Nat × Nat × Nat)}
    (hM : vx_Met l y ws rm Pc Qc XC mc ms free) (hblind : FrameBlind Pc) (hrc : rm.cells = mc) (hrs : rm.slots = ms)
    (hframes : rm.frames + 1 ≤ R.frames) (hlocals : W9 + (maxL + 11) + rm.locals ≤ R.locals)
    (hws : ∀ w ∈ ws, ∀ a' U, s.WarmedH U.vm → w.before a' U = true) (hcode : Cond.codeWith y bytes maxL ret hh ∈ ws) (hinit : ∀ a' U, s.WarmedH U.vm → (Cond.initialized y.cls).before a' U = true) :
    vx_Back l R p e below s sargs y len W9 (PreOf R mc ms Pc) (PostOf Qc mc ms free) (vx_Post XC mc ms free) := by
  intro m meth c A g ig mk a X hg hsize hdg hW hn hp
  have h1 : (headSpec ws rm).pre.before a A.U = true := atoms_intro fun w hw => hws w hw _ _ X.warmed
  have h2 : (Cond.codeWith y bytes maxL ret hh).before a A.U = true := hws _ hcode _ _ X.warmed
  have h3 : (Cond.initialized y.cls).before a A.U = true := hinit _ _ X.warmed
  have h4 : A.cells + (headSpec ws rm).room.cells ≤ R.cells := by rw [show (headSpec ws rm).room.cells = mc from hrc]; exact hp.1
  have h5 : A.slots + (headSpec ws rm).room.slots ≤ R.slots := by rw [show (headSpec ws rm).room.slots = ms from hrs]; exact hp.2.1
  have hPc : Pc a (A.U.calling g mk a) := hblind _ _ _ _ hp.2.2
  obtain ⟨U, Ls, c0, s0⟩ := A
  dsimp only [Pt.U, Pt.locs, Pt.cells, Pt.slots] at h1 h2 h3 h4 h5 X hn hPc ⊢
  obtain ⟨m9, methY, cY, hn9, hmY, hcY, -, hlY, -⟩ := Cond.codeWith_spec h2
  cases Option.some.inj (hn9.symm.trans hn)
  obtain ⟨kY, hkY, -⟩ := className_of_methodNamed hn
  have hinitY : kY.init = .initialized := Cond.initialized_spec (findClass_of_methodNamed hn) hkY h3
  have h : At U g.method c below := by rw [hg]; exact X.here
  have hlocals9 : W9 + (maxL + 11) + (headSpec ws rm).room.locals ≤ R.locals := hlocals
  have happ : (headSpec ws rm).appliesLoose y e.platform (U.calling g mk a) = true :=
    Spec.appliesLoose_calling (g := g) h hdg hn hkY hinitY
      (X.room_calling (g := g) (R' := (headSpec ws rm).room) hsize hmY hcY hframes (by rw [hlY]; omega) h4 h5) h1
  obtain ⟨mid, hmid⟩ := h.above
  have hfr : (U.setTop g).frames = (.java g :: mid) ++ below := by rw [State.frames_setTop' g h.top, hmid]; rfl
  obtain ⟨o, s₂, hsteps, -, hend, hq⟩ := Steps.callFree hM p X.admits X.cas X.clock (acts := []) hfr happ hPc trivial
  have hq' : vx_Q Qc XC mc ms free a (U.calling g mk a) o s₂ := hq
  rw [State.frames_setTop' g h.top] at hend
  obtain ⟨g₀, hg0⟩ := Option.isSome_iff_exists.mp h.top
  obtain ⟨r, hr⟩ := State.topJava?_eq_some.mp hg0
  have hr' : (({ U with heap := s₂.heap, slotsUsed := s₂.slotsUsed } : State).setVm s₂.vm).frames = .java g₀ :: r := hr
  rcases hq' with ⟨hqc, L, hfe, hL⟩ | ⟨q, rfl, E, ce, L, hx, hce, hcv, hcl, hW₂, hsm, hL⟩
  · obtain ⟨⟨v, rfl⟩, hW₂, e2, q2, q3, q4, q5, q6⟩ := id hfe
    have e3 : s₂ = ({ (U.calling g mk a).setFrames s₂.frames with heap := s₂.heap, slotsUsed := s₂.slotsUsed } : State).setVm s₂.vm := by
      have : s₂ = ({ s₂ with vm := (U.calling g mk a).vm } : State).setVm s₂.vm := rfl
      rw [e2] at this
      exact this
    obtain ⟨c₂, i₂, len₂, hc₂, hd₂, hf₂⟩ := hend
    have hW' : U.WarmedH s₂.vm := hW₂
    have hcc : c₂ = c := by
      have h1 : s₂.code? g.method = U.code? g.method := by
        rw [State.code?_eq, State.code?_eq, hW'.alike.method?]
      exact Option.some.inj (hc₂.symm.trans (h1.trans h.code))
    subst hcc
    have hlen : len₂ = len := by rw [hdg] at hd₂; cases hd₂; rfl
    subst hlen
    have hs₂ : s₂ = (({ U with heap := s₂.heap, slotsUsed := s₂.slotsUsed } : State).setVm s₂.vm).setTop { g with pc := g.pc + len₂, stack := v.toList ++ g.stack } := by
      refine e3.trans ?_
      rw [hf₂, State.calling_eq h.top, State.setFrames_setFrames, State.setTop_of_frames _ hr', hr]
      rfl
    have hsame : U.sameButNew ({ U with heap := s₂.heap, slotsUsed := s₂.slotsUsed } : State) L mc ms := by
      refine ⟨?_, q2, q3, q4, q5, q6⟩
      obtain ⟨t, ht, -⟩ := State.frames_cons hr
      show ({ U with heap := s₂.heap, slotsUsed := s₂.slotsUsed } : State) = { U.setFrames U.frames with heap := s₂.heap, slotsUsed := s₂.slotsUsed }
      rw [State.setFrames_self ht]
    subst hg
    refine Or.inl ⟨v, ⟨(({ U with heap := s₂.heap, slotsUsed := s₂.slotsUsed } : State).setVm s₂.vm), Ls ++ L, c0 + mc, s0 + ms⟩,
      ⟨X.admits, X.cas, X.clock, X.frames, X.room, X.hears, X.method, X.code, (X.here.setHeapUsed s₂.heap s₂.slotsUsed).setVm hW'.alike, X.tail, State.WarmedH.trans X.warmed hW', X.limits, X.bytes, X.same.trans (hsame.setVm s.vm)⟩,
      ⟨g, mk, s₂, L, rfl, rfl, hqc, rfl, hL, rfl, rfl⟩, ?_⟩
    show Steps p.tables e below _ ((({ U with heap := s₂.heap, slotsUsed := s₂.slotsUsed } : State).setVm s₂.vm).setTop { g with pc := g.pc + len₂, stack := v.toList ++ g.stack })
    rw [← hs₂]
    exact hsteps
  · obtain ⟨e2, q2, q3, q4, q5, q6⟩ := id hsm
    have e3 : s₂ = ({ (U.calling g mk a).setFrames s₂.frames with heap := s₂.heap, slotsUsed := s₂.slotsUsed } : State).setVm s₂.vm := by
      have : s₂ = ({ s₂ with vm := (U.calling g mk a).vm } : State).setVm s₂.vm := rfl
      rw [e2] at this
      exact this
    have hf₂ : s₂.frames = .throwing q :: .java g :: U.frames.tail := hend
    have hW' : U.WarmedH s₂.vm := hW₂
    have hs₂ : s₂ = ((({ U with heap := s₂.heap, slotsUsed := s₂.slotsUsed } : State).setVm s₂.vm).setTop g).pushFrame (.throwing q) := by
      refine e3.trans ?_
      rw [hf₂, State.calling_eq h.top, State.setFrames_setFrames, State.pushFrame, State.frames_setTop _ hr', State.setTop_of_frames _ hr', State.setFrames_setFrames, hr]
      rfl
    have hsame : U.sameButNew ({ U with heap := s₂.heap, slotsUsed := s₂.slotsUsed } : State) L mc ms := by
      refine ⟨?_, q2, q3, q4, q5, q6⟩
      obtain ⟨t, ht, -⟩ := State.frames_cons hr
      show ({ U with heap := s₂.heap, slotsUsed := s₂.slotsUsed } : State) = { U.setFrames U.frames with heap := s₂.heap, slotsUsed := s₂.slotsUsed }
      rw [State.setFrames_self ht]
    subst hg
    refine Or.inr ⟨q, ⟨(({ U with heap := s₂.heap, slotsUsed := s₂.slotsUsed } : State).setVm s₂.vm), Ls ++ L, c0 + mc, s0 + ms⟩,
      ⟨X.admits, X.cas, X.clock, X.frames, X.room, X.hears, X.method, X.code, (X.here.setHeapUsed s₂.heap s₂.slotsUsed).setVm hW'.alike, X.tail, State.WarmedH.trans X.warmed hW', X.limits, X.bytes, X.same.trans (hsame.setVm s.vm)⟩,
      ⟨g, mk, s₂, L, E, ce, rfl, rfl, hx, hce, hcv, hcl, rfl, hL, rfl, rfl⟩, ?_⟩
    show Steps p.tables e below _ (((({ U with heap := s₂.heap, slotsUsed := s₂.slotsUsed } : State).setVm s₂.vm).setTop g).pushFrame (.throwing q))
    rw [← hs₂]
    exact hsteps
end
variable {p : Program} {l : Launch} {e : Env} {R : Room} {s : State} {m : MethodId} {args : Array Value} {below : List Frame} {meth : Method} {c : Code} {T : State} {H : Heap} {locs : List Loc} {cells slots : Nat}
theorem vx_callVX (X : Stand p l e R s m args below meth c T locs cells slots) (hexec : p.tables.exec = Jvm.exec) {own C : String} {index : Nat} {y : MethodName} {bytes : ByteArray} {maxL : Nat} {ret : Option FieldType} {hh : List (Nat × Nat × Nat × Nat)}
    (hown : s.vm.findClass own = some m.cls) (hlink : (Cond.methodLink own index y).before args s = true) (hinst : (Cond.instanceMethod y).before args s = true) (hsel : (Cond.selects C y y).before args s = true)
    (hcode : (Cond.codeWith y bytes maxL ret hh).before args s = true) (hy : y.cls ≠ "java/lang/invoke/MethodHandle" ∧ y.cls ≠ "java/lang/invoke/VarHandle")
    {W9 : Nat} {Pre : Pt → Array Value → Prop} {Post : Pt → Array Value → Option Value → Pt → Prop} {PostX : Pt → Array Value → Addr → Pt → Prop} (hK : vx_Back l R p e below s args y 3 W9 Pre Post PostX)
    {b : Addr} {cellB : Cell} (hcell : T.heap[b]? = some cellB) (hobj : cellB.vm.isStatics = false) (hcls : s.vm.findClass C = some cellB.cls)
    {g : JFrame} (hg : g.method = m) (hsize : g.locals.size = c.maxLocals) {argsL rest : List Value} (hlen : ∀ sig, parseMethodDescriptor y.desc = some sig → argsL.length = sig.parameters.length)
    (hstack : g.stack = argsL.reverse ++ .ref b :: rest) (hW : 2 * g.monitorRoom + (rest.map fun v => v.category).sum ≤ W9) (hdg : decode c.code g.pc = .ok (.invokevirtual index, 3))
    (hpre : ∀ vm₁, s.WarmedH vm₁ → Pre ⟨T.setVm vm₁, locs, cells, slots⟩ (Value.ref b :: argsL).toArray) :
    (∃ (v : Option Value) (vm₁ : Vm) (B : Pt), s.WarmedH vm₁ ∧ Stand p l e R s m args below meth c B.U B.locs B.cells B.slots ∧ Post ⟨T.setVm vm₁, locs, cells, slots⟩ (Value.ref b :: argsL).toArray v B ∧
      ∀ target, Steps p.tables e below (B.U.setTop { g with pc := g.pc + 3, stack := v.toList ++ rest }) target → Steps p.tables e below (T.setTop g) target) ∨
    (∃ (q : Addr) (vm₁ : Vm) (B : Pt), s.WarmedH vm₁ ∧ Stand p l e R s m args below meth c B.U B.locs B.cells B.slots ∧ PostX ⟨T.setVm vm₁, locs, cells, slots⟩ (Value.ref b :: argsL).toArray q B ∧
      Steps p.tables e below (T.setTop g) ((B.U.setTop { g with stack := rest }).pushFrame (.throwing q))) := by
  obtain ⟨mk, methM, hnamed, hmethM, hstM, habM⟩ := Cond.instanceMethod_spec hinst
  obtain ⟨m8, methM', cM, hn8, hmethM', -, -, -, -, -, -, hsigM⟩ := Cond.codeWith_spec hcode
  cases Option.some.inj (hn8.symm.trans hnamed)
  cases hmethM.symm.trans hmethM'
  obtain ⟨c2, r2, m2, q1, q2, q3, q4, kP, hkP, hkPi⟩ := Cond.selects_spec hsel
  cases hcls.symm.trans q1
  cases (State.methodFound?_of_named hnamed hy).symm.trans q2
  cases hnamed.symm.trans q3
  have hselP : selectMethod e.platform s.vm cellB.cls mk = .method mk := by rw [Launch.admits_selectMethod X.admits]; exact q4
  obtain ⟨vm₁, X₁, hstep₁⟩ := X.invokevirtual hexec hown hlink hnamed hmethM hstM hkP hkPi hy (a := b) (cell := cellB) hcell
    (fun z h => by rw [h] at hobj; cases hobj) hselP hmethM habM hkP hkPi (g := g) hg (argsL := argsL) (rest := rest) (hlen _ hsigM) hstack hdg
  rcases hK m meth c ⟨T.setVm vm₁, locs, cells, slots⟩ { g with stack := rest } (.invokevirtual index) mk (Value.ref b :: argsL).toArray X₁ hg hsize hdg hW (X₁.named hnamed) (hpre vm₁ X₁.warmed) with ⟨v, B, X', hpost, hsteps⟩ | ⟨q, B, X', hpost, hsteps⟩
  · exact Or.inl ⟨v, vm₁, B, X₁.warmed, X', hpost, fun target h => hstep₁ _ fun acts => by rw [doInvoke_state]; exact hsteps.trans h⟩
  · exact Or.inr ⟨q, vm₁, B, X₁.warmed, X', hpost, hstep₁ _ fun acts => by rw [doInvoke_state]; exact hsteps⟩
theorem vx_callSX (X : Stand p l e R s m args below meth c T locs cells slots) (hexec : p.tables.exec = Jvm.exec) {own : String} {index : Nat} {y : MethodName} {bytes : ByteArray} {maxL : Nat} {ret : Option FieldType} {hh : List (Nat × Nat × Nat × Nat)}
    (hown : s.vm.findClass own = some m.cls) (hlink : (Cond.methodLink own index y).before args s = true) (hstat : (Cond.static y).before args s = true) (hinit : (Cond.initialized y.cls).before args s = true)
    (hcode : (Cond.codeWith y bytes maxL ret hh).before args s = true) (hy : y.cls ≠ "java/lang/invoke/MethodHandle" ∧ y.cls ≠ "java/lang/invoke/VarHandle")
    {W9 : Nat} {Pre : Pt → Array Value → Prop} {Post : Pt → Array Value → Option Value → Pt → Prop} {PostX : Pt → Array Value → Addr → Pt → Prop} (hK : vx_Back l R p e below s args y 3 W9 Pre Post PostX)
    {g : JFrame} (hg : g.method = m) (hsize : g.locals.size = c.maxLocals) {argsL rest : List Value} (hlen : ∀ sig, parseMethodDescriptor y.desc = some sig → argsL.length = sig.parameters.length)
    (hstack : g.stack = argsL.reverse ++ rest) (hW : 2 * g.monitorRoom + (rest.map fun v => v.category).sum ≤ W9) (hdg : decode c.code g.pc = .ok (.invokestatic index, 3))
    (hpre : ∀ vm₁, s.WarmedH vm₁ → Pre ⟨T.setVm vm₁, locs, cells, slots⟩ argsL.toArray) :
    (∃ (v : Option Value) (vm₁ : Vm) (B : Pt), s.WarmedH vm₁ ∧ Stand p l e R s m args below meth c B.U B.locs B.cells B.slots ∧ Post ⟨T.setVm vm₁, locs, cells, slots⟩ argsL.toArray v B ∧
      ∀ target, Steps p.tables e below (B.U.setTop { g with pc := g.pc + 3, stack := v.toList ++ rest }) target → Steps p.tables e below (T.setTop g) target) ∨
    (∃ (q : Addr) (vm₁ : Vm) (B : Pt), s.WarmedH vm₁ ∧ Stand p l e R s m args below meth c B.U B.locs B.cells B.slots ∧ PostX ⟨T.setVm vm₁, locs, cells, slots⟩ argsL.toArray q B ∧
      Steps p.tables e below (T.setTop g) ((B.U.setTop { g with stack := rest }).pushFrame (.throwing q))) := by
  obtain ⟨mk, methM, cM, hnamed, hmethM, -, -, -, -, -, -, hsigM⟩ := Cond.codeWith_spec hcode
  have hstatic : methM.isStatic = true := Cond.static_spec hnamed hmethM hstat
  obtain ⟨kP, hkP, -⟩ := className_of_methodNamed hnamed
  have hinitP : kP.init = .initialized := Cond.initialized_spec (findClass_of_methodNamed hnamed) hkP hinit
  obtain ⟨vm₁, X₁, hstep₁⟩ := X.invokestatic hexec hown hlink hnamed hmethM hstatic hkP hinitP hy (g := g) hg (argsL := argsL) (rest := rest) (hlen _ hsigM) hstack hdg
  rcases hK m meth c ⟨T.setVm vm₁, locs, cells, slots⟩ { g with stack := rest } (.invokestatic index) mk argsL.toArray X₁ hg hsize hdg hW (X₁.named hnamed) (hpre vm₁ X₁.warmed) with ⟨v, B, X', hpost, hsteps⟩ | ⟨q, B, X', hpost, hsteps⟩
  · exact Or.inl ⟨v, vm₁, B, X₁.warmed, X', hpost, fun target h => hstep₁ _ fun acts => by rw [doInvoke_state]; exact hsteps.trans h⟩
  · exact Or.inr ⟨q, vm₁, B, X₁.warmed, X', hpost, hstep₁ _ fun acts => by rw [doInvoke_state]; exact hsteps⟩
theorem vx_callVW (X : Stand p l e R s m args below meth c T locs cells slots) (hexec : p.tables.exec = Jvm.exec) {own C : String} {index : Nat} {y : MethodName} {bytes : ByteArray} {maxL : Nat} {ret : Option FieldType} {hh : List (Nat × Nat × Nat × Nat)}
    (hown : s.vm.findClass own = some m.cls) (hlink : (Cond.methodLink own index y).before args s = true) (hinst : (Cond.instanceMethod y).before args s = true) (hsel : (Cond.selects C y y).before args s = true)
    (hcode : (Cond.codeWith y bytes maxL ret hh).before args s = true) (hy : y.cls ≠ "java/lang/invoke/MethodHandle" ∧ y.cls ≠ "java/lang/invoke/VarHandle")
    {W9 : Nat} {Pre : Pt → Array Value → Prop} {Post : Pt → Array Value → Option Value → Pt → Prop} (hK : Back l R p e below s args y 3 W9 Pre Post)
    {b : Addr} {cellB : Cell} (hcell : T.heap[b]? = some cellB) (hobj : cellB.vm.isStatics = false) (hcls : s.vm.findClass C = some cellB.cls)
    {g : JFrame} (hg : g.method = m) (hsize : g.locals.size = c.maxLocals) {argsL rest : List Value} (hlen : ∀ sig, parseMethodDescriptor y.desc = some sig → argsL.length = sig.parameters.length)
    (hstack : g.stack = argsL.reverse ++ .ref b :: rest) (hW : 2 * g.monitorRoom + (rest.map fun v => v.category).sum ≤ W9) (hdg : decode c.code g.pc = .ok (.invokevirtual index, 3))
    (hpre : ∀ vm₁, s.WarmedH vm₁ → Pre ⟨T.setVm vm₁, locs, cells, slots⟩ (Value.ref b :: argsL).toArray) :
    ∃ (v : Option Value) (vm₁ : Vm) (B : Pt), s.WarmedH vm₁ ∧ Stand p l e R s m args below meth c B.U B.locs B.cells B.slots ∧ Post ⟨T.setVm vm₁, locs, cells, slots⟩ (Value.ref b :: argsL).toArray v B ∧
      ∀ target, Steps p.tables e below (B.U.setTop { g with pc := g.pc + 3, stack := v.toList ++ rest }) target → Steps p.tables e below (T.setTop g) target := by
  obtain ⟨mk, methM, hnamed, hmethM, hstM, habM⟩ := Cond.instanceMethod_spec hinst
  obtain ⟨m8, methM', cM, hn8, hmethM', -, -, -, -, -, -, hsigM⟩ := Cond.codeWith_spec hcode
  cases Option.some.inj (hn8.symm.trans hnamed)
  cases hmethM.symm.trans hmethM'
  obtain ⟨c2, r2, m2, q1, q2, q3, q4, kP, hkP, hkPi⟩ := Cond.selects_spec hsel
  cases hcls.symm.trans q1
  cases (State.methodFound?_of_named hnamed hy).symm.trans q2
  cases hnamed.symm.trans q3
  have hselP : selectMethod e.platform s.vm cellB.cls mk = .method mk := by rw [Launch.admits_selectMethod X.admits]; exact q4
  obtain ⟨vm₁, X₁, hstep₁⟩ := X.invokevirtual hexec hown hlink hnamed hmethM hstM hkP hkPi hy (a := b) (cell := cellB) hcell
    (fun z h => by rw [h] at hobj; cases hobj) hselP hmethM habM hkP hkPi (g := g) hg (argsL := argsL) (rest := rest) (hlen _ hsigM) hstack hdg
  obtain ⟨v, B, X', hpost, hsteps⟩ := hK m meth c ⟨T.setVm vm₁, locs, cells, slots⟩ { g with stack := rest } (.invokevirtual index) mk (Value.ref b :: argsL).toArray X₁ hg hsize hdg hW (X₁.named hnamed) (hpre vm₁ X₁.warmed)
  exact ⟨v, vm₁, B, X₁.warmed, X', hpost, fun target h => hstep₁ _ fun acts => by rw [doInvoke_state]; exact hsteps.trans h⟩
abbrev vx_CVW (R : Room) (s : State) (args : Array Value) (own C : String) (index : Nat) (y : MethodName) (bytes : ByteArray) (maxL : Nat) (ret : Option FieldType) (hh : List (Nat × Nat × Nat × Nat)) (ws : List Cond) (rm : Room) (mc ms n : Nat) : Prop :=
  (rm.cells = mc ∧ rm.slots = ms ∧ rm.frames + 1 ≤ R.frames ∧ 8 + (maxL + 11) + rm.locals ≤ R.locals ∧ (∀ w ∈ ws, ∀ (a' : Array Value) (U : State), s.WarmedH U.vm → w.before a' U = true) ∧ Cond.codeWith y bytes maxL ret hh ∈ ws) ∧
  (Cond.codeWith y bytes maxL ret hh).before args s = true ∧ (Cond.initialized y.cls).before args s = true ∧ (y.cls ≠ "java/lang/invoke/MethodHandle" ∧ y.cls ≠ "java/lang/invoke/VarHandle") ∧
  (∀ sig, parseMethodDescriptor y.desc = some sig → n = sig.parameters.length) ∧ (Cond.methodLink own index y).before args s = true ∧ (Cond.instanceMethod y).before args s = true ∧ (Cond.selects C y y).before args s = true
theorem vx_cwVW {own C : String} {index maxL mc ms : Nat} {y : MethodName} {bytes : ByteArray} {ret : Option FieldType} {hh : List (Nat × Nat × Nat × Nat)} {Ts ws ws' : List Cond} {rm : Room} (n : Nat) (ht : ∀ w ∈ Ts, w.before args s = true) (hT : GoodIn Ts (wsV own index C y ws)) (hw : ws = Cond.codeWith y bytes maxL ret hh :: ws') (hrc : rm.cells = mc) (hrs : rm.slots = ms)
    (hd : y.cls = C ∧ y.cls ≠ "java/lang/invoke/MethodHandle" ∧ y.cls ≠ "java/lang/invoke/VarHandle" ∧ (parseMethodDescriptor y.desc).map (fun d => d.parameters.length) = some n) (hR : rm.frames + 1 ≤ R.frames ∧ 8 + (maxL + 11) + rm.locals ≤ R.locals) :
    vx_CVW R s args own C index y bytes maxL ret hh ws rm mc ms n := by
  obtain ⟨hC, hd⟩ := hd
  subst hC
  have ok : ∀ w ∈ wsV own index y.cls y ws, w.before args s = true := fun w h => ht w (hT w h).1
  have hG : GoodIn Ts ws := fun w h => hT w (by unfold wsV; exact List.mem_append_right _ h)
  have hc : Cond.codeWith y bytes maxL ret hh ∈ ws := by rw [hw]; exact List.mem_cons_self
  refine ⟨⟨hrc, hrs, hR.1, hR.2, pay_in ht hG, hc⟩, ht _ (hG _ hc).1, ok _ (by simp [wsV]), ⟨hd.1, hd.2.1⟩, fun sig h => ?_, ok _ (by simp [wsV]), ok _ (by simp [wsV]), ok _ (by simp [wsV])⟩
  have h2 := hd.2.2
  rw [h] at h2
  exact (Option.some.inj h2).symm
theorem vx_runVW {y : MethodName} {bytes cc : ByteArray} {maxL nL mc ms n index : Nat} {ret : Option FieldType} {hh : List (Nat × Nat × Nat × Nat)} {ws : List Cond} {rm : Room} {Pc : Array Value → State → Prop} {Qc : Array Value → State → Outcome → State → Prop} {free : Addr → Prop} {Ts : List Cond} {own C : String} {b : Addr} {As rest : List Value} {g : JFrame}
    (S : CallFix p m c cc nL s args Ts own) (hM : Met l y ws rm Pc Qc mc ms free) (cw : vx_CVW R s args own C index y bytes maxL ret hh ws rm mc ms n) (hp : PreV s H C b Pc As)
    (hg : g.method = m) (hn : As.length = n) (hsize : g.locals.size = nL) (hstack : g.stack = As.reverse ++ .ref b :: rest) (hW : 2 * g.monitorRoom + (rest.map fun v => v.category).sum ≤ 8) (hdg : decode cc g.pc = .ok (.invokevirtual index, 3)) (hf : cells + mc ≤ R.cells ∧ slots + ms ≤ R.slots) :
    va_Run p l e R s m args below meth c H locs cells slots mc ms g rest (Qc (Value.ref b :: As).toArray) free := by
  obtain ⟨⟨hrc, hrs, hfr, hlo, hws, hcw⟩, hcode, hini, hy, hlen, hl, hin, hse⟩ := cw
  have hK : Back l R p e below s args y 3 8 (PreOf R mc ms Pc) (PostOf Qc mc ms free) := va_backW (hh := hh) (bytes := bytes) (maxL := maxL) (ret := ret) hM hp.1 hrc hrs hfr hlo hws hcw (fun a' U hW => word_at hW (Or.inl (by first | rfl | simp [Cond.onTables, Cond.keeps, Cond.steady])) hini)
  obtain ⟨hx, hb, hml, ho, -⟩ := S
  obtain ⟨-, ⟨cellB, hcB, hoB, hclB⟩, hPc⟩ := hp
  intro T hT X
  obtain ⟨v, vm₁, ⟨U', l2, c2, s2⟩, hW₁, X', ⟨g', mk, t, L, e1, e2, hq, h1, hL, h2, h3⟩, st⟩ := vx_callVW X hx (C := C) (hh := hh) (bytes := bytes) (maxL := maxL) (ret := ret) ho hl hin hse hcode hy hK (by rw [hT]; exact hcB) hoB hclB hg (hsize.trans hml.symm) (argsL := As) (rest := rest) (fun sig h => hn.trans (hlen sig h)) hstack hW (by rw [hb]; exact hdg)
    (fun vm₁ hW₁ => ⟨hf.1, hf.2, hPc (T.setVm vm₁) hT hW₁⟩)
  dsimp only [Pt.U, Pt.locs, Pt.cells, Pt.slots] at X' e1 e2 h1 h2 h3 st
  subst h1; subst h2; subst h3
  exact ⟨v, (T.setVm vm₁).calling g' mk (Value.ref b :: As).toArray, t, U', L, hT, X', hL, e1, e2, hq, st⟩
section
variable {y : MethodName} {bytes cc : ByteArray} {maxL nL mc ms n index : Nat} {ret : Option FieldType} {ws : List Cond} {rm : Room} {Pc : Array Value → State → Prop} {Qc : Array Value → State → Outcome → State → Prop} {XC : String → State → State → Prop} {free : Addr → Prop} {Ts : List Cond} {own C : String} {b : Addr} {As rest : List Value} {g : JFrame}
theorem vx_runVX {hh : List (Nat × Nat × Nat × Nat)} (S : CallFix p m c cc nL s args Ts own) (hM : vx_Met l y ws rm Pc Qc XC mc ms free) (cw : vx_CVW R s args own C index y bytes maxL ret hh ws rm mc ms n) (hp : PreV s H C b Pc As)
    (hg : g.method = m) (hn : As.length = n) (hsize : g.locals.size = nL) (hstack : g.stack = As.reverse ++ .ref b :: rest) (hW : 2 * g.monitorRoom + (rest.map fun v => v.category).sum ≤ 8) (hdg : decode cc g.pc = .ok (.invokevirtual index, 3)) (hf : cells + mc ≤ R.cells ∧ slots + ms ≤ R.slots) :
    vx_Run p l e R s m args below meth c H locs cells slots mc ms g rest (Qc (Value.ref b :: As).toArray) XC free := by
  obtain ⟨⟨hrc, hrs, hfr, hlo, hws, hcw⟩, hcode, hini, hy, hlen, hl, hin, hse⟩ := cw
  have hK : vx_Back l R p e below s args y 3 8 (PreOf R mc ms Pc) (PostOf Qc mc ms free) (vx_Post XC mc ms free) := vx_backW (hh := hh) (bytes := bytes) (maxL := maxL) (ret := ret) hM hp.1 hrc hrs hfr hlo hws hcw (fun a' U hW => word_at hW (Or.inl (by first | rfl | simp [Cond.onTables, Cond.keeps, Cond.steady])) hini)
  obtain ⟨hx, hb, hml, ho, -⟩ := S
  obtain ⟨-, ⟨cellB, hcB, hoB, hclB⟩, hPc⟩ := hp
  intro T hT X
  rcases vx_callVX X hx (C := C) (hh := hh) (bytes := bytes) (maxL := maxL) (ret := ret) ho hl hin hse hcode hy hK (by rw [hT]; exact hcB) hoB hclB hg (hsize.trans hml.symm) (argsL := As) (rest := rest) (fun sig h => hn.trans (hlen sig h)) hstack hW (by rw [hb]; exact hdg)
    (fun vm₁ hW₁ => ⟨hf.1, hf.2, hPc (T.setVm vm₁) hT hW₁⟩) with ⟨v, vm₁, ⟨U', l2, c2, s2⟩, hW₁, X', ⟨g', mk, t, L, e1, e2, hq, h1, hL, h2, h3⟩, st⟩ | ⟨q, vm₁, ⟨U', l2, c2, s2⟩, hW₁, X', ⟨g', mk, t, L, E, ce, e1, e2, hq, hce, hcv, hcl, h1, hL, h2, h3⟩, st⟩
  · dsimp only [Pt.U, Pt.locs, Pt.cells, Pt.slots] at X' e1 e2 h1 h2 h3 st
    subst h1; subst h2; subst h3
    exact Or.inl ⟨v, (T.setVm vm₁).calling g' mk (Value.ref b :: As).toArray, t, U', L, hT, X', hL, e1, e2, hq, st⟩
  · dsimp only [Pt.U, Pt.locs, Pt.cells, Pt.slots] at X' e1 e2 h1 h2 h3 st hcl
    subst h1; subst h2; subst h3
    exact Or.inr ⟨q, (T.setVm vm₁).calling g' mk (Value.ref b :: As).toArray, t, U', L, E, ce, hT, X', hL, e1, e2, hq, hce, hcv, vx_cls hW₁ hcl, st⟩
theorem vx_runSX {hh : List (Nat × Nat × Nat × Nat)} (S : CallFix p m c cc nL s args Ts own) (hM : vx_Met l y ws rm Pc Qc XC mc ms free) (cw : vx_CSW R s args own index y bytes maxL ret hh ws rm mc ms n) (hp : PreS s H Pc As)
    (hg : g.method = m) (hn : As.length = n) (hsize : g.locals.size = nL) (hstack : g.stack = As.reverse ++ rest) (hW : 2 * g.monitorRoom + (rest.map fun v => v.category).sum ≤ 8) (hdg : decode cc g.pc = .ok (.invokestatic index, 3)) (hf : cells + mc ≤ R.cells ∧ slots + ms ≤ R.slots) :
    vx_Run p l e R s m args below meth c H locs cells slots mc ms g rest (Qc As.toArray) XC free := by
  obtain ⟨⟨hrc, hrs, hfr, hlo, hws, hcw⟩, hcode, hini, hy, hlen, hl, hstt⟩ := cw
  have hK : vx_Back l R p e below s args y 3 8 (PreOf R mc ms Pc) (PostOf Qc mc ms free) (vx_Post XC mc ms free) := vx_backW (hh := hh) (bytes := bytes) (maxL := maxL) (ret := ret) hM hp.1 hrc hrs hfr hlo hws hcw (fun a' U hW => word_at hW (Or.inl (by first | rfl | simp [Cond.onTables, Cond.keeps, Cond.steady])) hini)
  obtain ⟨hx, hb, hml, ho, -⟩ := S
  intro T hT X
  rcases vx_callSX X hx (hh := hh) (bytes := bytes) (maxL := maxL) (ret := ret) ho hl hstt hini hcode hy hK hg (hsize.trans hml.symm) (argsL := As) (rest := rest) (fun sig h => hn.trans (hlen sig h)) hstack hW (by rw [hb]; exact hdg)
    (fun vm₁ hW₁ => ⟨hf.1, hf.2, hp.2 (T.setVm vm₁) hT hW₁⟩) with ⟨v, vm₁, ⟨U', l2, c2, s2⟩, hW₁, X', ⟨g', mk, t, L, e1, e2, hq, h1, hL, h2, h3⟩, st⟩ | ⟨q, vm₁, ⟨U', l2, c2, s2⟩, hW₁, X', ⟨g', mk, t, L, E, ce, e1, e2, hq, hce, hcv, hcl, h1, hL, h2, h3⟩, st⟩
  · dsimp only [Pt.U, Pt.locs, Pt.cells, Pt.slots] at X' e1 e2 h1 h2 h3 st
    subst h1; subst h2; subst h3
    exact Or.inl ⟨v, (T.setVm vm₁).calling g' mk As.toArray, t, U', L, hT, X', hL, e1, e2, hq, st⟩
  · dsimp only [Pt.U, Pt.locs, Pt.cells, Pt.slots] at X' e1 e2 h1 h2 h3 st hcl
    subst h1; subst h2; subst h3
    exact Or.inr ⟨q, (T.setVm vm₁).calling g' mk As.toArray, t, U', L, E, ce, hT, X', hL, e1, e2, hq, hce, hcv, vx_cls hW₁ hcl, st⟩
end
end VXH
theorem vx_ofWH {l : Launch} {y : MethodName} {ws ws' : List Cond} {rm : Room} {Pc : Array Value → State → Prop} {Qc : Array Value → State → Outcome → State → Prop} {XC : String → State → State → Prop} {mc ms : Nat} {free : Addr → Prop} {cc : ByteArray} {maxL : Nat} {ret : Option FieldType} {hh : List (Nat × Nat × Nat × Nat)}
    (hy : plainName y.cls = true) (hw : ws = Cond.codeWith y cc maxL ret hh :: ws')
    (body : ∀ p e s m args below meth c s₁, BodyLoose p l y (headSpec ws rm) cc maxL ret e s m args below meth c s₁ → c.maxLocals = maxL → Pc args s →
      W p l e (headSpec ws rm).room s m args below meth c s.heap [] 0 0 (vx_MQ below Qc XC args s mc ms free) (entryFrame m args maxL)) : vx_Met l y ws rm Pc Qc XC mc ms free := by
  refine MetFree.of_bodyS (code := cc) (maxLocals := maxL) (ret := ret) hy ?_ ?_
  · intro args s m h hn
    obtain ⟨m9, meth, c, hn9, h1, h2, h3, h4, -, h5, h6, -⟩ := Cond.codeWith_spec (atoms_spec (ws := ws) h _ (by rw [hw]; exact List.mem_cons_self))
    cases hn.symm.trans hn9
    exact ⟨meth, c, h1, h2, h3, h4, h5, h6⟩
  · intro p e s m args below meth c s₁ B hml hP _
    have hh0 : s₁.heap = s.heap := by rw [B.state]; rfl
    obtain ⟨t, a1, o, b1, b2, b3⟩ := body p e s m args below meth c s₁ B hml hP s₁ hh0 (Stand.of_body B)
    exact ⟨t, o, a1, b1, b2, b3⟩
/-! ===== END ===== -/

/-! ===== BEGIN printed: names, fields, word lists, decode rows ===== -/
def RX0 : String := "Formationist$LinkCounts"
def TX0 : u_T := fun k => match k with
  | _ => ("Formationist$LinkCounts", "linksWithin", "[I", true)
def tyX0 : Nat → FieldType := fun k => match k with
  | _ => .array .int
abbrev wsX00 : List Cond := u_ws RX0 TX0 1
theorem nmX0 : ∀ a, a < 1 → ∀ b, b < 1 → a ≠ b → (TX0 a).2.1 ≠ (TX0 b).2.1 := by decide +kernel
theorem tyX0_ok : ∀ k, k < 1 → parseFieldDescriptor (TX0 k).2.2.1 = some (tyX0 k) := by decide +kernel
abbrev cX0_init : ByteArray := prog_2_method_1_code
def yX0_init : MethodName := ⟨RX0, "<init>", "()V"⟩
abbrev cX0_rankOf : ByteArray := prog_2_method_2_code
def yX0_rankOf : MethodName := ⟨RX0, "rankOf", "(LFormationist$Net;)I"⟩
abbrev cX0_leavesFree : ByteArray := prog_2_method_3_code
def yX0_leavesFree : MethodName := ⟨RX0, "leavesFree", "(I)Z"⟩
abbrev cX0_keepLink : ByteArray := prog_2_method_4_code
def yX0_keepLink : MethodName := ⟨RX0, "keepLink", "(I)V"⟩
def RX1 : String := "Formationist$Net"
def TX1 : u_T := fun k => match k with
  | _ => ("Formationist$Net", "others", "[I", true)
def tyX1 : Nat → FieldType := fun k => match k with
  | _ => .array .int
abbrev wsX10 : List Cond := u_ws RX1 TX1 1
theorem nmX1 : ∀ a, a < 1 → ∀ b, b < 1 → a ≠ b → (TX1 a).2.1 ≠ (TX1 b).2.1 := by decide +kernel
theorem tyX1_ok : ∀ k, k < 1 → parseFieldDescriptor (TX1 k).2.2.1 = some (tyX1 k) := by decide +kernel
abbrev cX1_init : ByteArray := prog_3_method_1_code
def yX1_init : MethodName := ⟨RX1, "<init>", "()V"⟩
abbrev cX1_holds : ByteArray := prog_3_method_2_code
def yX1_holds : MethodName := ⟨RX1, "holds", "(II)Z"⟩
abbrev cX1_with : ByteArray := prog_3_method_3_code
def yX1_with : MethodName := ⟨RX1, "with", "(II)I"⟩
abbrev cX1_without : ByteArray := prog_3_method_4_code
def yX1_without : MethodName := ⟨RX1, "without", "(II)I"⟩
abbrev cX1_clear : ByteArray := prog_3_method_5_code
def yX1_clear : MethodName := ⟨RX1, "clear", "()V"⟩
abbrev cX1_join : ByteArray := prog_3_method_6_code
def yX1_join : MethodName := ⟨RX1, "join", "(II)V"⟩
abbrev cX1_cut : ByteArray := prog_3_method_7_code
def yX1_cut : MethodName := ⟨RX1, "cut", "(II)V"⟩
abbrev cX1_joins : ByteArray := prog_3_method_8_code
def yX1_joins : MethodName := ⟨RX1, "joins", "(II)Z"⟩
abbrev cX1_degreeOf : ByteArray := prog_3_method_9_code
def yX1_degreeOf : MethodName := ⟨RX1, "degreeOf", "(I)I"⟩
abbrev cX1_pairCount : ByteArray := prog_3_method_10_code
def yX1_pairCount : MethodName := ⟨RX1, "pairCount", "()I"⟩
abbrev cX1_groupOf : ByteArray := prog_3_method_11_code
def yX1_groupOf : MethodName := ⟨RX1, "groupOf", "(I)I"⟩
def RX2 : String := "Formationist$PebbleGame"
def TX2 : u_T := fun k => match k with
  | 0 => ("Formationist$PebbleGame", "pebbles", "[I", true)
  | 1 => ("Formationist$PebbleGame", "arcs", "[I", true)
  | _ => ("Formationist$PebbleGame", "cameFrom", "[I", true)
def tyX2 : Nat → FieldType := fun k => match k with
  | 0 => .array .int
  | 1 => .array .int
  | _ => .array .int
abbrev wsX20 : List Cond := u_ws RX2 TX2 3
theorem nmX2 : ∀ a, a < 3 → ∀ b, b < 3 → a ≠ b → (TX2 a).2.1 ≠ (TX2 b).2.1 := by decide +kernel
theorem tyX2_ok : ∀ k, k < 3 → parseFieldDescriptor (TX2 k).2.2.1 = some (tyX2 k) := by decide +kernel
abbrev cX2_init : ByteArray := prog_4_method_1_code
def yX2_init : MethodName := ⟨RX2, "<init>", "()V"⟩
abbrev cX2_rankOf : ByteArray := prog_4_method_2_code
def yX2_rankOf : MethodName := ⟨RX2, "rankOf", "(LFormationist$Net;)I"⟩
abbrev cX2_gatherPebbles : ByteArray := prog_4_method_3_code
def yX2_gatherPebbles : MethodName := ⟨RX2, "gatherPebbles", "(II)Z"⟩
abbrev cX2_fetchPebble : ByteArray := prog_4_method_4_code
def yX2_fetchPebble : MethodName := ⟨RX2, "fetchPebble", "(II)Z"⟩
abbrev cX2_findPebble : ByteArray := prog_4_method_5_code
def yX2_findPebble : MethodName := ⟨RX2, "findPebble", "(II)I"⟩
abbrev cX2_noteWay : ByteArray := prog_4_method_6_code
def yX2_noteWay : MethodName := ⟨RX2, "noteWay", "(II)V"⟩
abbrev cX2_holderAmong : ByteArray := prog_4_method_7_code
def yX2_holderAmong : MethodName := ⟨RX2, "holderAmong", "(I)I"⟩
abbrev cX2_turnArcs : ByteArray := prog_4_method_8_code
def yX2_turnArcs : MethodName := ⟨RX2, "turnArcs", "(I)V"⟩
def RX3 : String := "Formationist$TreeMatrix"
def TX3 : u_T := fun k => match k with
  | _ => ("Formationist$TreeMatrix", "rows", "[[J", true)
def tyX3 : Nat → FieldType := fun k => match k with
  | _ => .array (.array .long)
abbrev wsX30 : List Cond := u_ws RX3 TX3 1
theorem nmX3 : ∀ a, a < 1 → ∀ b, b < 1 → a ≠ b → (TX3 a).2.1 ≠ (TX3 b).2.1 := by decide +kernel
theorem tyX3_ok : ∀ k, k < 1 → parseFieldDescriptor (TX3 k).2.2.1 = some (tyX3 k) := by decide +kernel
abbrev cX3_init : ByteArray := prog_5_method_1_code
def yX3_init : MethodName := ⟨RX3, "<init>", "()V"⟩
abbrev cX3_treesOf : ByteArray := prog_5_method_2_code
def yX3_treesOf : MethodName := ⟨RX3, "treesOf", "(LFormationist$Net;I)J"⟩
abbrev cX3_fill : ByteArray := prog_5_method_3_code
def yX3_fill : MethodName := ⟨RX3, "fill", "(LFormationist$Net;I)I"⟩
abbrev cX3_fillRow : ByteArray := prog_5_method_4_code
def yX3_fillRow : MethodName := ⟨RX3, "fillRow", "(LFormationist$Net;II[J)V"⟩
abbrev cX3_determinant : ByteArray := prog_5_method_5_code
def yX3_determinant : MethodName := ⟨RX3, "determinant", "(I)J"⟩
def RX4 : String := "Formationist"
def TX4 : u_T := fun k => match k with
  | 0 => ("Formationist", "xs", "[I", true)
  | 1 => ("Formationist", "ys", "[I", true)
  | 2 => ("Formationist", "ups", "[Z", true)
  | 3 => ("Formationist", "priorities", "[I", true)
  | 4 => ("Formationist", "estimates", "[I", true)
  | 5 => ("Formationist", "sums", "[I", true)
  | 6 => ("Formationist", "weights", "[I", true)
  | 7 => ("Formationist", "lastReceivers", "[I", true)
  | 8 => ("Formationist", "wantedSquares", "[[I", true)
  | 9 => ("Formationist", "blocked", "LFormationist$Net;", true)
  | 10 => ("Formationist", "count", "I", false)
  | 11 => ("Formationist", "range", "I", false)
  | 12 => ("Formationist", "net", "LFormationist$Net;", true)
  | 13 => ("Formationist", "changes", "[I", true)
  | 14 => ("Formationist", "moreChanges", "[I", true)
  | 15 => ("Formationist", "pebbleGame", "LFormationist$PebbleGame;", true)
  | 16 => ("Formationist", "linkCounts", "LFormationist$LinkCounts;", true)
  | _ => ("Formationist", "treeMatrix", "LFormationist$TreeMatrix;", true)
def tyX4 : Nat → FieldType := fun k => match k with
  | 0 => .array .int
  | 1 => .array .int
  | 2 => .array .boolean
  | 3 => .array .int
  | 4 => .array .int
  | 5 => .array .int
  | 6 => .array .int
  | 7 => .array .int
  | 8 => .array (.array .int)
  | 9 => .object "Formationist$Net"
  | 10 => .int
  | 11 => .int
  | 12 => .object "Formationist$Net"
  | 13 => .array .int
  | 14 => .array .int
  | 15 => .object "Formationist$PebbleGame"
  | 16 => .object "Formationist$LinkCounts"
  | _ => .object "Formationist$TreeMatrix"
abbrev wsX40 : List Cond := u_ws RX4 TX4 18
theorem nmX4 : ∀ a, a < 18 → ∀ b, b < 18 → a ≠ b → (TX4 a).2.1 ≠ (TX4 b).2.1 := by decide +kernel
theorem tyX4_ok : ∀ k, k < 18 → parseFieldDescriptor (TX4 k).2.2.1 = some (tyX4 k) := by decide +kernel
abbrev cX4_init : ByteArray := prog_1_method_1_code
def yX4_init : MethodName := ⟨RX4, "<init>", "()V"⟩
abbrev cX4_addMember : ByteArray := prog_1_method_2_code
def yX4_addMember : MethodName := ⟨RX4, "addMember", "(II)I"⟩
abbrev cX4_move : ByteArray := prog_1_method_3_code
def yX4_move : MethodName := ⟨RX4, "move", "(III)V"⟩
abbrev cX4_toggle : ByteArray := prog_1_method_4_code
def yX4_toggle : MethodName := ⟨RX4, "toggle", "(I)Z"⟩
abbrev cX4_setPriority : ByteArray := prog_1_method_5_code
def yX4_setPriority : MethodName := ⟨RX4, "setPriority", "(II)I"⟩
abbrev cX4_setRange : ByteArray := prog_1_method_6_code
def yX4_setRange : MethodName := ⟨RX4, "setRange", "(I)I"⟩
abbrev cX4_block : ByteArray := prog_1_method_7_code
def yX4_block : MethodName := ⟨RX4, "block", "(II)Z"⟩
abbrev cX4_members : ByteArray := prog_1_method_8_code
def yX4_members : MethodName := ⟨RX4, "members", "()I"⟩
abbrev cX4_xOf : ByteArray := prog_1_method_9_code
def yX4_xOf : MethodName := ⟨RX4, "xOf", "(I)I"⟩
abbrev cX4_yOf : ByteArray := prog_1_method_10_code
def yX4_yOf : MethodName := ⟨RX4, "yOf", "(I)I"⟩
abbrev cX4_areLinked : ByteArray := prog_1_method_11_code
def yX4_areLinked : MethodName := ⟨RX4, "areLinked", "(II)Z"⟩
abbrev cX4_links : ByteArray := prog_1_method_12_code
def yX4_links : MethodName := ⟨RX4, "links", "()I"⟩
abbrev cX4_degree : ByteArray := prog_1_method_13_code
def yX4_degree : MethodName := ⟨RX4, "degree", "(I)I"⟩
abbrev cX4_groups : ByteArray := prog_1_method_14_code
def yX4_groups : MethodName := ⟨RX4, "groups", "()I"⟩
abbrev cX4_leader : ByteArray := prog_1_method_15_code
def yX4_leader : MethodName := ⟨RX4, "leader", "(I)I"⟩
abbrev cX4_trees : ByteArray := prog_1_method_16_code
def yX4_trees : MethodName := ⟨RX4, "trees", "()J"⟩
abbrev cX4_setEstimate : ByteArray := prog_1_method_17_code
def yX4_setEstimate : MethodName := ⟨RX4, "setEstimate", "(II)I"⟩
abbrev cX4_estimate : ByteArray := prog_1_method_18_code
def yX4_estimate : MethodName := ⟨RX4, "estimate", "(I)I"⟩
abbrev cX4_agree : ByteArray := prog_1_method_19_code
def yX4_agree : MethodName := ⟨RX4, "agree", "(I)I"⟩
abbrev cX4_setSum : ByteArray := prog_1_method_20_code
def yX4_setSum : MethodName := ⟨RX4, "setSum", "(II)I"⟩
abbrev cX4_sum : ByteArray := prog_1_method_21_code
def yX4_sum : MethodName := ⟨RX4, "sum", "(I)I"⟩
abbrev cX4_weight : ByteArray := prog_1_method_22_code
def yX4_weight : MethodName := ⟨RX4, "weight", "(I)I"⟩
abbrev cX4_spread : ByteArray := prog_1_method_23_code
def yX4_spread : MethodName := ⟨RX4, "spread", "(I)I"⟩
abbrev cX4_want : ByteArray := prog_1_method_24_code
def yX4_want : MethodName := ⟨RX4, "want", "(III)I"⟩
abbrev cX4_error : ByteArray := prog_1_method_25_code
def yX4_error : MethodName := ⟨RX4, "error", "()I"⟩
abbrev cX4_settle : ByteArray := prog_1_method_26_code
def yX4_settle : MethodName := ⟨RX4, "settle", "(I)I"⟩
abbrev cX4_rank : ByteArray := prog_1_method_27_code
def yX4_rank : MethodName := ⟨RX4, "rank", "()I"⟩
abbrev cX4_rankByCounting : ByteArray := prog_1_method_28_code
def yX4_rankByCounting : MethodName := ⟨RX4, "rankByCounting", "()I"⟩
abbrev cX4_isRigid : ByteArray := prog_1_method_29_code
def yX4_isRigid : MethodName := ⟨RX4, "isRigid", "()Z"⟩
abbrev cX4_isSpare : ByteArray := prog_1_method_30_code
def yX4_isSpare : MethodName := ⟨RX4, "isSpare", "(II)Z"⟩
abbrev cX4_requireMember : ByteArray := prog_1_method_31_code
def yX4_requireMember : MethodName := ⟨RX4, "requireMember", "(I)V"⟩
abbrev cX4_requireUnlike : ByteArray := prog_1_method_32_code
def yX4_requireUnlike : MethodName := ⟨RX4, "requireUnlike", "(II)V"⟩
abbrev cX4_requireWithin : ByteArray := prog_1_method_33_code
def yX4_requireWithin : MethodName := ⟨RX4, "requireWithin", "(III)V"⟩
abbrev cX4_requirePlace : ByteArray := prog_1_method_34_code
def yX4_requirePlace : MethodName := ⟨RX4, "requirePlace", "(II)V"⟩
abbrev cX4_requireValue : ByteArray := prog_1_method_35_code
def yX4_requireValue : MethodName := ⟨RX4, "requireValue", "(I)V"⟩
abbrev cX4_requireRounds : ByteArray := prog_1_method_36_code
def yX4_requireRounds : MethodName := ⟨RX4, "requireRounds", "(I)V"⟩
abbrev cX4_squareBetween : ByteArray := prog_1_method_37_code
def yX4_squareBetween : MethodName := ⟨RX4, "squareBetween", "(II)I"⟩
abbrev cX4_hears : ByteArray := prog_1_method_38_code
def yX4_hears : MethodName := ⟨RX4, "hears", "(II)Z"⟩
abbrev cX4_drawNet : ByteArray := prog_1_method_39_code
def yX4_drawNet : MethodName := ⟨RX4, "drawNet", "()V"⟩
abbrev cX4_countGroups : ByteArray := prog_1_method_40_code
def yX4_countGroups : MethodName := ⟨RX4, "countGroups", "()I"⟩
abbrev cX4_upSet : ByteArray := prog_1_method_41_code
def yX4_upSet : MethodName := ⟨RX4, "upSet", "()I"⟩
abbrev cX4_outranks : ByteArray := prog_1_method_42_code
def yX4_outranks : MethodName := ⟨RX4, "outranks", "(II)Z"⟩
abbrev cX4_exchangeEstimates : ByteArray := prog_1_method_43_code
def yX4_exchangeEstimates : MethodName := ⟨RX4, "exchangeEstimates", "()V"⟩
abbrev cX4_flowBetween : ByteArray := prog_1_method_44_code
def yX4_flowBetween : MethodName := ⟨RX4, "flowBetween", "(II)I"⟩
abbrev cX4_spanOfEstimates : ByteArray := prog_1_method_45_code
def yX4_spanOfEstimates : MethodName := ⟨RX4, "spanOfEstimates", "()I"⟩
abbrev cX4_handHalves : ByteArray := prog_1_method_46_code
def yX4_handHalves : MethodName := ⟨RX4, "handHalves", "()I"⟩
abbrev cX4_nextReceiver : ByteArray := prog_1_method_47_code
def yX4_nextReceiver : MethodName := ⟨RX4, "nextReceiver", "(I)I"⟩
abbrev cX4_handOver : ByteArray := prog_1_method_48_code
def yX4_handOver : MethodName := ⟨RX4, "handOver", "(III[I)V"⟩
abbrev cX4_addChanges : ByteArray := prog_1_method_49_code
def yX4_addChanges : MethodName := ⟨RX4, "addChanges", "([I[I)V"⟩
abbrev cX4_stepTogether : ByteArray := prog_1_method_50_code
def yX4_stepTogether : MethodName := ⟨RX4, "stepTogether", "()V"⟩
abbrev cX4_stepOf : ByteArray := prog_1_method_51_code
def yX4_stepOf : MethodName := ⟨RX4, "stepOf", "(I[I)I"⟩
abbrev cX4_keptOnPlane : ByteArray := prog_1_method_52_code
def yX4_keptOnPlane : MethodName := ⟨RX4, "keptOnPlane", "(I)I"⟩
abbrev cX4_excessOf : ByteArray := prog_1_method_53_code
def yX4_excessOf : MethodName := ⟨RX4, "excessOf", "(II)I"⟩
def RX5 : String := "FormationistModel"
def TX5 : u_T := fun k => match k with
  | _ => ("", "", "", false)
def tyX5 : Nat → FieldType := fun k => match k with
  | _ => .int
abbrev wsX50 : List Cond := u_ws RX5 TX5 0
theorem nmX5 : ∀ a, a < 0 → ∀ b, b < 0 → a ≠ b → (TX5 a).2.1 ≠ (TX5 b).2.1 := by decide +kernel
theorem tyX5_ok : ∀ k, k < 0 → parseFieldDescriptor (TX5 k).2.2.1 = some (tyX5 k) := by decide +kernel
def RJx145de : String := "java/io/Serializable"
def TJx145de : u_T := fun k => match k with
  | _ => ("", "", "", false)
def tyJx145de : Nat → FieldType := fun k => match k with
  | _ => .int
abbrev wsJx145de0 : List Cond := u_ws RJx145de TJx145de 0
theorem nmJx145de : ∀ a, a < 0 → ∀ b, b < 0 → a ≠ b → (TJx145de a).2.1 ≠ (TJx145de b).2.1 := by decide +kernel
theorem tyJx145de_ok : ∀ k, k < 0 → parseFieldDescriptor (TJx145de k).2.2.1 = some (tyJx145de k) := by decide +kernel
def RJ6 : String := "java/lang/Integer"
def TJ6 : u_T := fun k => match k with
  | _ => ("", "", "", false)
def tyJ6 : Nat → FieldType := fun k => match k with
  | _ => .int
abbrev wsJ60 : List Cond := u_ws RJ6 TJ6 0
theorem nmJ6 : ∀ a, a < 0 → ∀ b, b < 0 → a ≠ b → (TJ6 a).2.1 ≠ (TJ6 b).2.1 := by decide +kernel
theorem tyJ6_ok : ∀ k, k < 0 → parseFieldDescriptor (TJ6 k).2.2.1 = some (tyJ6 k) := by decide +kernel
abbrev cJ6_numberOfTrailingZeros_0f7a4 : ByteArray := prog_13_method_48_code
def yJ6_numberOfTrailingZeros_0f7a4 : MethodName := ⟨RJ6, "numberOfTrailingZeros", "(I)I"⟩
abbrev cJ6_bitCount_0f7a4 : ByteArray := prog_13_method_49_code
def yJ6_bitCount_0f7a4 : MethodName := ⟨RJ6, "bitCount", "(I)I"⟩
def RJ9 : String := "java/lang/Math"
def TJ9 : u_T := fun k => match k with
  | _ => ("", "", "", false)
def tyJ9 : Nat → FieldType := fun k => match k with
  | _ => .int
abbrev wsJ90 : List Cond := u_ws RJ9 TJ9 0
theorem nmJ9 : ∀ a, a < 0 → ∀ b, b < 0 → a ≠ b → (TJ9 a).2.1 ≠ (TJ9 b).2.1 := by decide +kernel
theorem tyJ9_ok : ∀ k, k < 0 → parseFieldDescriptor (TJ9 k).2.2.1 = some (tyJ9 k) := by decide +kernel
abbrev cJ9_abs_0f7a4 : ByteArray := prog_14_method_59_code
def yJ9_abs_0f7a4 : MethodName := ⟨RJ9, "abs", "(I)I"⟩
abbrev cJ9_max_7cf53 : ByteArray := prog_14_method_65_code
def yJ9_max_7cf53 : MethodName := ⟨RJ9, "max", "(II)I"⟩
abbrev cJ9_max_f86c9 : ByteArray := prog_14_method_66_code
def yJ9_max_f86c9 : MethodName := ⟨RJ9, "max", "(JJ)J"⟩
abbrev cJ9_min_7cf53 : ByteArray := prog_14_method_69_code
def yJ9_min_7cf53 : MethodName := ⟨RJ9, "min", "(II)I"⟩
abbrev cJ9_min_f86c9 : ByteArray := prog_14_method_70_code
def yJ9_min_f86c9 : MethodName := ⟨RJ9, "min", "(JJ)J"⟩
def RJ0 : String := "java/lang/String"
def TJ0 : u_T := fun k => match k with
  | _ => ("", "", "", false)
def tyJ0 : Nat → FieldType := fun k => match k with
  | _ => .int
abbrev wsJ00 : List Cond := u_ws RJ0 TJ0 0
theorem nmJ0 : ∀ a, a < 0 → ∀ b, b < 0 → a ≠ b → (TJ0 a).2.1 ≠ (TJ0 b).2.1 := by decide +kernel
theorem tyJ0_ok : ∀ k, k < 0 → parseFieldDescriptor (TJ0 k).2.2.1 = some (tyJ0 k) := by decide +kernel
def RJ7 : String := "java/util/Arrays"
def TJ7 : u_T := fun k => match k with
  | _ => ("", "", "", false)
def tyJ7 : Nat → FieldType := fun k => match k with
  | _ => .int
abbrev wsJ70 : List Cond := u_ws RJ7 TJ7 0
theorem nmJ7 : ∀ a, a < 0 → ∀ b, b < 0 → a ≠ b → (TJ7 a).2.1 ≠ (TJ7 b).2.1 := by decide +kernel
theorem tyJ7_ok : ∀ k, k < 0 → parseFieldDescriptor (TJ7 k).2.2.1 = some (tyJ7 k) := by decide +kernel
abbrev cJ7_fill_53178 : ByteArray := prog_18_method_103_code
def yJ7_fill_53178 : MethodName := ⟨RJ7, "fill", "([II)V"⟩
def RL : String := "FormationistLaw"
abbrev cL_from : ByteArray := method_2_code
def yL_from : MethodName := ⟨RL, "from", "([III)I"⟩
abbrev cL_pair : ByteArray := method_3_code
def yL_pair : MethodName := ⟨RL, "pair", "(II)I"⟩
abbrev cL_square : ByteArray := method_4_code
def yL_square : MethodName := ⟨RL, "square", "([III)I"⟩
abbrev cL_heard : ByteArray := method_5_code
def yL_heard : MethodName := ⟨RL, "heard", "([I[II)I"⟩
abbrev cL_ones : ByteArray := method_6_code
def yL_ones : MethodName := ⟨RL, "ones", "(I)I"⟩
abbrev cL_up : ByteArray := method_7_code
def yL_up : MethodName := ⟨RL, "up", "([I)I"⟩
abbrev cL_group : ByteArray := method_8_code
def yL_group : MethodName := ⟨RL, "group", "(II)I"⟩
abbrev cL_links : ByteArray := method_9_code
def yL_links : MethodName := ⟨RL, "links", "([I[I)I"⟩
abbrev cL_isFree : ByteArray := method_10_code
def yL_isFree : MethodName := ⟨RL, "isFree", "(I)Z"⟩
abbrev cL_rank : ByteArray := method_11_code
def yL_rank : MethodName := ⟨RL, "rank", "(I)I"⟩
abbrev cL_trees : ByteArray := method_12_code
def yL_trees : MethodName := ⟨RL, "trees", "(II)J"⟩
abbrev cL_isLinked : ByteArray := method_13_code
def yL_isLinked : MethodName := ⟨RL, "isLinked", "(LFormationist;[I[I)Z"⟩
abbrev cL_spare : ByteArray := method_14_code
def yL_spare : MethodName := ⟨RL, "spare", "(LFormationist;II)I"⟩
abbrev cL_isFigure : ByteArray := method_15_code
def yL_isFigure : MethodName := ⟨RL, "isFigure", "(LFormationist;[I[II)Z"⟩
abbrev cL_error : ByteArray := method_16_code
def yL_error : MethodName := ⟨RL, "error", "([I[I[I)I"⟩
abbrev cL_agreed : ByteArray := method_17_code
def yL_agreed : MethodName := ⟨RL, "agreed", "([I[I)I"⟩
abbrev cL_spread : ByteArray := method_18_code
def yL_spread : MethodName := ⟨RL, "spread", "([I[I)I"⟩
abbrev cL_moved : ByteArray := method_19_code
def yL_moved : MethodName := ⟨RL, "moved", "(JI)I"⟩
abbrev cL_settle : ByteArray := method_20_code
def yL_settle : MethodName := ⟨RL, "settle", "([I[I[I)V"⟩
abbrev cL_acts : ByteArray := method_21_code
def yL_acts : MethodName := ⟨RL, "acts", "(LFormationist;[I[I[III)Z"⟩
abbrev cL_holds : ByteArray := method_22_code
def yL_holds : MethodName := ⟨RL, "holds", "([I)Z"⟩
abbrev cL_isHeld : ByteArray := method_23_code
def yL_isHeld : MethodName := ⟨RL, "isHeld", "([I)Z"⟩
abbrev cL_law : ByteArray := code
def yL_law : MethodName := ⟨RL, "law", "([I)Z"⟩
/-! A throw of a class whose own constructor calls its superclass's by any index (java.util.NoSuchElementException: 13). The road follows the library's for the index 7 (Bundle, BundleOwnThrow) and the printed row vx_throwS. -/
section FXT
variable {p : Program} {l : Launch} {e : Env} {R : Room} {s : State} {args : Array Value} {below : List Frame} {meth : Method} {c : Code} {locs : List Loc} {cells slots : Nat}
def fx_chainA (X : String) (ix : Nat) (rx : ByteArray) (Y : String) (r : List String) : List Cond := Bundle.passSAtoms X Y ix rx ++ Bundle.chainSAtoms Y r
theorem fx_chain {args : Array Value} {s : State} {pl : Platform} (hpl : pl.magicAccessors = ({} : Platform).magicAccessors) {top : MethodId} (htop : s.methodNamed? (Bundle.initS Bundle.tN) = some top)
    {ix : Nat} {rx : ByteArray} (x0 : decode rx 0 = .ok (.aload_n 0, 1)) (x1 : decode rx 1 = .ok (.aload_n 1, 1)) (x2 : decode rx 2 = .ok (.invokespecial ix, 3)) (x5 : decode rx 5 = .ok (.return_, 1))
    {X Y : String} {r : List String} (hX : Bundle.fit X = true) (hY : Bundle.fit Y = true) (hn : ∀ n ∈ r, Bundle.fit n = true) (h : ∀ c ∈ fx_chainA X ix rx Y r, c.before args s = true) :
      ∃ (P1 : PassC) (Ps : List PassC), Ps.length = r.length + 1 ∧ P1.LinksS pl s ∧ (∀ P, P ∈ Ps → P.LinksS pl s) ∧ s.methodNamed? (Bundle.initS X) = some P1.m ∧
        P1.sup = firstOf top (Ps.map (·.toPassT)) ∧ PassesOn top (Ps.map (·.toPassT)) := by
  obtain ⟨P, L, hm, hs⟩ := PassC.ofS_atoms (args := args) (s := s) hpl (X := X) (Y := Y) (Bundle.fit_spec hX).1 (Bundle.fit_spec hY).2 x0 x1 x2 x5 (fun c hc => h c (List.mem_append_left _ hc))
  obtain ⟨P', Ps, hlen, L', hL, hm', hsup, hpass⟩ := Bundle.chainS (args := args) hpl htop r Y hY hn (fun c hc => h c (List.mem_append_right _ hc))
  refine ⟨P, P' :: Ps, by simp [hlen], L, ?_, hm, Option.some.inj (hs.symm.trans hm'), hsup, hpass⟩
  intro Q hQ
  rcases List.mem_cons.mp hQ with rfl | hQ
  · exact L'
  · exact hL Q hQ
def fx_own (own : String) (ic : Nat) (X : String) (ix : Nat) (rx : ByteArray) (Y : String) (r : List String) : List Cond :=
  Bundle.throwableAtoms ++ Bundle.throwableSAtoms ++ fx_chainA X ix rx Y r ++
  [.methodLink own ic (Bundle.initS X), .instantiable X 6, .castable X X, .selects X Bundle.tFill0 Bundle.tFill0, .selects X Bundle.tFill Bundle.tFill,
   .lays X Bundle.tN "cause" "Ljava/lang/Throwable;", .lays X Bundle.tN "stackTrace" Bundle.steD, .lays X Bundle.tN "suppressedExceptions" Bundle.listD, .lays X Bundle.tN "detailMessage" "Ljava/lang/String;",
   .isRef (.static Bundle.tN "UNASSIGNED_STACK" Bundle.steD), .isRef (.static Bundle.tN "SUPPRESSED_SENTINEL" Bundle.listD),
   .fieldLink Bundle.tN 198 Bundle.tN "backtrace" "Ljava/lang/Object;", .lays Bundle.tN Bundle.tN "backtrace" "Ljava/lang/Object;", .lays X Bundle.tN "backtrace" "Ljava/lang/Object;"]
def fx_atS (own : String) (ic : Nat) (X : String) (ix : Nat) (rx : ByteArray) (Y : String) (r : List String) : List Cond := (fx_own own ic X ix rx Y r).filter vx_no
def fx_rx : ByteArray := ⟨#[0x2a, 0x2b, 0xb7, 0x00, 0x0d, 0xb1]⟩
def fx_at200 : List Cond := fx_atS RX4 200 "java/util/NoSuchElementException" 13 fx_rx "java/lang/RuntimeException" ["java/lang/Exception"]
section
variable {m₀ : MethodId} {W : State}
set_option maxHeartbeats 1000000 in
theorem fx_ctor (X : Stand p l e R s m₀ args below meth c W locs cells slots) (hexec : p.tables.exec = Jvm.exec) (htr : e.platform.stackTraces = false) {own cls Y9 : String} {names : List String} {ic ix : Nat} {rx : ByteArray} (x0 : decode rx 0 = .ok (.aload_n 0, 1)) (x1 : decode rx 1 = .ok (.aload_n 1, 1)) (x2 : decode rx 2 = .ok (.invokespecial ix, 3)) (x5 : decode rx 5 = .ok (.return_, 1))
    (hown : s.vm.findClass own = some m₀.cls) (hcls : Bundle.fit cls = true) (hY9 : Bundle.fit Y9 = true) (hnames : ∀ n ∈ names, Bundle.fit n = true)
    (h : ∀ a ∈ fx_own own ic cls ix rx Y9 names, a.before args s = true)
    (hlocs : ∀ x ∈ locs, ∀ cell, s.heap[x.base]? = some cell → cell.vm.isStatics = false)
    {a : Addr} {cX : ClassId} {kX : Class} (hfoundX : s.vm.findClass cls = some cX) (hkX : s.vm.classes[cX]? = some kX) (hcell : W.heap[a]? = some (freshCell cX kX)) (hnew : s.heap.size ≤ a)
    {msg : Value} (hmsg : msg.isRef = true)
    {g : JFrame} (hg : g.method = m₀) (hsize : g.locals.size = c.maxLocals) (hlocked : g.locked = none) (hentered : g.entered = []) {rest : List Value} (hstack : g.stack = msg :: .ref a :: .ref a :: rest)
    (hd6 : decode c.code g.pc = .ok (.invokespecial ic, 3)) (hd9 : decode c.code (g.pc + 3) = .ok (.athrow, 1)) (hout : ∀ x ∈ c.exceptionTable.toList, covers x (g.pc + 3) = false)
    (hRframes : names.length + 4 < R.frames) (hRlocals : 2 * g.monitorRoom + ((Value.ref a :: rest).map fun v => v.category).sum + (13 * (names.length + 2) + 42) ≤ R.locals) (hlocks : meth.locks = false := by first | assumption | exact BodyLoose.notSynchronized (by assumption) | exact Body.notSynchronized (by assumption)) :
    ∃ U : State, Steps p.tables e below (W.setTop g) U ∧ U.status = .running ∧ Ended U below (.threw a) ∧ s.WarmedH U.vm ∧ s.sameButNew ({ U with vm := s.vm } : State) locs cells slots ∧
      ∃ ce, U.heap[a]? = some ce ∧ ce.cls = cX ∧ ce.vm = .none := by
  have howns : e.platform.frameOwnsMonitors = true := by rw [X.admits.platform]
  have hfin : e.platform.finalization = false := by rw [X.admits.platform]
  have hpl : e.platform.magicAccessors = ({} : Platform).magicAccessors := by rw [X.admits.platform]
  have a' : ∀ x, x ∈ fx_own own ic cls ix rx Y9 names → x.holds args s none s [] = true := fun x hx => h x hx
  obtain ⟨T, Z0, L, -, Y⟩ := ThrowableC.of_atoms (args := args) howns hfin hpl (fun x hx => h x (by simp [fx_own, hx]))
  obtain ⟨Z, M, LZ, LM, hnZ⟩ := Init0T.ofS_atoms (args := args) hpl L Y (fun x hx => h x (by simp [fx_own, hx]))
  obtain ⟨P1, Ps, hlen, L1, hL, hP1m, hlink1, hlink⟩ := fx_chain (args := args) hpl hnZ x0 x1 x2 x5 hcls hY9 hnames (fun x hx => h x (by simp [fx_own, hx]))
  have hfound : s.vm.findClass cls = some P1.m.cls := findClass_of_methodNamed hP1m
  cases Option.some.inj (hfoundX.symm.trans hfound)
  obtain ⟨c1, kX', hc1, hk, hord, -, -, hn6⟩ := Cond.instantiable_spec (a' (.instantiable cls 6) (by simp [fx_own]))
  cases Option.some.inj (hc1.symm.trans hfound)
  cases Option.some.inj (hkX.symm.trans hk)
  have hsel0 : selectMethod e.platform s.vm P1.m.cls T.fill0 = .method T.fill0 := by
    obtain ⟨c2, r2, m2, q1, q2, q3, q4, -⟩ := Cond.selects_spec (a' (.selects cls Bundle.tFill0 Bundle.tFill0) (by simp [fx_own]))
    cases Option.some.inj (q1.symm.trans hfound)
    cases Option.some.inj (q2.symm.trans (State.methodFound?_of_named Y.fill0 (by decide)))
    cases Option.some.inj (q3.symm.trans Y.fill0)
    rw [Launch.admits_selectMethod X.admits]; exact q4
  have hselF : selectMethod e.platform s.vm P1.m.cls T.fill = .method T.fill := by
    obtain ⟨c2, r2, m2, q1, q2, q3, q4, -⟩ := Cond.selects_spec (a' (.selects cls Bundle.tFill Bundle.tFill) (by simp [fx_own]))
    cases Option.some.inj (q1.symm.trans hfound)
    cases Option.some.inj (q2.symm.trans (State.methodFound?_of_named Y.fill (by decide)))
    cases Option.some.inj (q3.symm.trans Y.fill)
    rw [Launch.admits_selectMethod X.admits]; exact q4
  obtain ⟨cellS0, hcS0, hiss⟩ := Y.statics
  obtain ⟨u0, hu0⟩ := Cond.staticRefV Y.unassigned L.unassignedStatic L.statics hcS0 hiss (a' (.isRef (.static Bundle.tN "UNASSIGNED_STACK" Bundle.steD)) (by simp [fx_own]))
  obtain ⟨sen, hsen⟩ := Cond.staticRefV Y.sentinel L.sentinelStatic L.statics hcS0 hiss (a' (.isRef (.static Bundle.tN "SUPPRESSED_SENTINEL" Bundle.listD)) (by simp [fx_own]))
  obtain ⟨ci198, i198, fB, hk198, hg198, ha198, hsB, -, hnB, htB, hffB⟩ := Cond.ownField (t := .object "java/lang/Object") Y.found L.cls (by decide +kernel) (a' (.fieldLink Bundle.tN 198 Bundle.tN "backtrace" "Ljava/lang/Object;") (by simp [fx_own])) (a' (.lays Bundle.tN Bundle.tN "backtrace" "Ljava/lang/Object;") (by simp [fx_own])) e.platform hpl
  obtain ⟨cellS, hcS', heS, -, hkeep⟩ := X.same.2.2.2.2.2 T.aS cellS0 hcS0
  have hcellS : W.heap[T.aS]? = some cellS := hcS'
  have hout' : ∀ i, (⟨T.aS, i⟩ : Loc) ∉ locs := fun i hmem => by
    have := hlocs _ hmem cellS0 hcS0
    rw [hiss] at this; cases this
  have hknownS : cellS.vm ≠ .unknown := by
    rw [heS]; intro hu
    rw [show cellS0.vm = .unknown from hu] at hiss
    cases hiss
  have hneS : T.aS ≠ a := Nat.ne_of_lt (Nat.lt_of_lt_of_le (Array.getElem?_eq_some_iff.mp hcS0).1 hnew)
  obtain ⟨iM, hffM⟩ := Y.msg
  obtain ⟨tyC, dC, hdC, hdnC⟩ := Cond.laysAt hfound hk Y.cause (a' (.lays cls Bundle.tN "cause" "Ljava/lang/Throwable;") (by simp [fx_own]))
  obtain ⟨tyS, dS, hdS, hdnS⟩ := Cond.laysAt hfound hk Y.stack (a' (.lays cls Bundle.tN "stackTrace" Bundle.steD) (by simp [fx_own]))
  obtain ⟨tyP, dP, hdP, hdnP⟩ := Cond.laysAt hfound hk Y.supp (a' (.lays cls Bundle.tN "suppressedExceptions" Bundle.listD) (by simp [fx_own]))
  obtain ⟨tyM, dM, hdM, hdnM⟩ := Cond.laysAt hfound hk hffM (a' (.lays cls Bundle.tN "detailMessage" "Ljava/lang/String;") (by simp [fx_own]))
  obtain ⟨tyB, dB, hdB, hdnB⟩ := Cond.laysAt hfound hk hffB (a' (.lays cls Bundle.tN "backtrace" "Ljava/lang/Object;") (by simp [fx_own]))
  have bC := Cond.laysApart hdB hdC hdnB hdnC (by rw [hnB, Y.causeName]; decide)
  have bS := Cond.laysApart hdB hdS hdnB hdnS (by rw [hnB, Y.stackName]; decide)
  have bP := Cond.laysApart hdB hdP hdnB hdnP (by rw [hnB, Y.suppName]; decide)
  have hskip : SkipFacts T e.platform s (fun u => u) u0 ((preparedCellV T.toThrowableT (freshCell P1.m.cls kX) a u0 sen).withEntry W.cur) :=
    ⟨{ ci198 := ci198, i198 := i198, fBack := fB }, ⟨hk198, hg198, ha198, hsB⟩, by
      have := fresh_default (c := P1.m.cls) tyB
      rw [htB] at this
      simpa [preparedCellV, Cell.setSlot, Cell.withEntry, Array.getElem?_setIfInBounds, bC, bS, bP, bC.symm, bS.symm, bP.symm, defaultValue] using this, fun _ _ => rfl⟩
  obtain ⟨tm, methC, cdC, kC, vm₁, hnC, -, -, -, -, -, -, -, hW₁, st1⟩ := Steps.initColdS (tb := p.tables) (e := e) (below := below) (s := s) (U := W) X.here hexec X.warmed hpl hown (t := Bundle.initS cls) rfl rfl (Bundle.fit_spec hcls).2
    (a' (.methodLink own ic (Bundle.initS cls)) (by simp [fx_own])) (h (.instanceMethod (Bundle.initS cls)) (by simp [fx_own, fx_chainA, Bundle.passSAtoms])) (bytes := rx) (maxL := 2) (h (.code (Bundle.initS cls) rx 2 none) (by simp [fx_own, fx_chainA, Bundle.passSAtoms]))
    (f := g) hg (a := a) (msg := msg) (rest := .ref a :: rest) hstack hd6
  cases Option.some.inj (hnC.symm.trans hP1m)
  have X₁ := X.noted hW₁
  obtain ⟨vm₂, X₂, st2⟩ := X₁.ctorMessageOffV hexec (g := { g with stack := .ref a :: rest }) hg hsize T L Z LZ M LM (P1 :: Ps)
    (fun P hP => by rcases List.mem_cons.mp hP with rfl | hP; exact L1; exact hL P hP) ⟨hlink1, hlink⟩ (u0 := u0) (sen := sen) (self := a) hmsg (cell := freshCell P1.m.cls kX) (cellS := cellS)
    hcell (fun _ => by simp) (by simp) rfl rfl hsel0 hselF hcellS hneS hknownS (by rw [hkeep _ (hout' _)]; exact hu0) (by rw [hkeep _ (hout' _)]; exact hsen)
    (Takes.of_laid hk hord tyC (by rw [Y.causeType]; rfl)) (Takes.of_laid hk hord tyS (by rw [Y.stackType]; exact fits_refV_array _ u0)) (Takes.of_laid hk hord tyP (by rw [Y.suppType]; exact fits_refV_object _ sen))
    (Takes.of_laid hk hord tyM (by rw [Y.msgType]; exact fits_refV_object _ ⟨msg, hmsg⟩)) Y.objLocals hskip htr [] hd6
    (by simp only [List.length_cons, hlen]; omega) (by simp only [List.length_cons, hlen]; exact hRlocals)
  obtain ⟨hwalk, hrun, hended, hWU, hsame⟩ := X₂.athrowLeaves hexec (g := { g with stack := .ref a :: rest, pc := g.pc + 3 }) hg hlocked hentered hout (a := a) (rest := rest) rfl hd9
  have hlt : a < ((W.setVm vm₁).setVm vm₂).heap.size := (Array.getElem?_eq_some_iff.mp hcell).1
  have hU := heapAt_setCell_self (s := (W.setVm vm₁).setVm vm₂) (plainBareV T.toThrowableT (freshCell P1.m.cls kX) a u0 sen msg) hlt
  refine ⟨_, st1 _ (fun acts => ?_), hrun, hended, hWU, hsame.weaken (fun y hy hlt' => ?_) (Nat.le_refl _) (Nat.le_refl _), _, hU, rfl, rfl⟩
  · rw [doInvoke_state]
    exact st2 _ hwalk
  · rcases List.mem_append.mp hy with h1 | h1
    · exact h1
    · exfalso
      have hb : y.base = a := by
        simp only [List.mem_cons, List.not_mem_nil, or_false] at h1
        rcases h1 with rfl | rfl | rfl | rfl | rfl <;> rfl
      rw [hb] at hlt'
      exact Nat.not_lt.mpr hnew hlt'

end
section
variable {m : MethodId} {H : Heap} {mc ms : Nat} {free : Addr → Prop} {ls : Array Slot} {rest : List Value}
variable {Qc : Array Value → State → Outcome → State → Prop} {XC : String → State → State → Prop}
set_option maxHeartbeats 1000000 in
theorem fx_throwS {cc : ByteArray} {pc : Nat} (hexec : p.tables.exec = Jvm.exec) (hb : c.code = cc) (hl : l.stackTraces = false) {own cls Y9 text : String} {names : List String} {ik is ic ix mc ms sa : Nat} {rx : ByteArray} (x0 : decode rx 0 = .ok (.aload_n 0, 1)) (x1 : decode rx 1 = .ok (.aload_n 1, 1)) (x2 : decode rx 2 = .ok (.invokespecial ix, 3)) (x5 : decode rx 5 = .ok (.return_, 1)) {A : Nat → Prop}
    (hown : s.vm.findClass own = some m.cls) (hcls : Bundle.fit cls = true) (hY9 : Bundle.fit Y9 = true) (hnames : ∀ n ∈ names, Bundle.fit n = true)
    (hk : (Cond.classLink own ik cls).before args s = true) (hini : (Cond.initialized cls).before args s = true) (hstr : vk_R own is text sa s) (hat : ∀ w ∈ fx_atS own ic cls ix rx Y9 names, w.before args s = true)
    (hgood : ∀ w ∈ Cond.classLink own ik cls :: Cond.initialized cls :: fx_atS own ic cls ix rx Y9 names, vx_ot w = true)
    (hU : vx_Zq Bundle.tN "UNASSIGNED_STACK" Bundle.steD A s s.heap) (hN : vx_Zq Bundle.tN "SUPPRESSED_SENTINEL" Bundle.listD A s s.heap) (hS : va_S A s.heap H locs) (hsize : ls.size = c.maxLocals)
    (d0 : decode cc pc = .ok (.new ik, 3)) (d3 : decode cc (pc + 3) = .ok (.dup, 1)) (d4 : decode cc (pc + 4) = .ok (.ldc is, 2)) (d6 : decode cc (pc + 6) = .ok (.invokespecial ic, 3)) (d9 : decode cc (pc + 9) = .ok (.athrow, 1))
    (hout : ∀ x ∈ c.exceptionTable.toList, covers x (pc + 9) = false)
    (hRframes : names.length + 4 < R.frames) (hRlocals : (rest.map fun v => v.category).sum + (13 * (names.length + 2) + 43) ≤ R.locals) (hRcells : cells + 1 ≤ R.cells) (hRslots : slots + 6 ≤ R.slots) (hlocks : meth.locks = false)
    (hx : ∀ t : State, s.vm.Alike t.vm → H.size ≤ t.heap.size → (∀ q : Nat, q < H.size → t.heap[q]? = H[q]?) → XC cls s t)
    (hf : ∀ z ∈ locs, free z.base) (hc : cells + 1 ≤ mc) (hs : slots + 6 ≤ ms) :
    W p l e R s m args below meth c H locs cells slots (vx_MQ below Qc XC args s mc ms free) (F0 m pc ls rest) := by
  intro T hT X
  have htr : e.platform.stackTraces = false := (show e.platform.stackTraces = l.stackTraces by rw [X.admits.platform]).trans hl
  have Y := vx_rebase X (R' := { frames := R.frames, locals := R.locals, cells := 1, slots := 6 }) (Nat.le_refl _) (Nat.le_refl _) hRcells hRslots
  obtain ⟨s', hA⟩ : ∃ z, z = (T.setVm s.vm).setFrames (.invoking m args :: below) := ⟨_, rfl⟩
  rw [← hA] at Y
  have hvm : s'.vm = s.vm := by rw [hA]; rfl
  have hhp : s'.heap = H := by rw [hA]; exact hT
  have hW0 : s.WarmedH s'.vm := by rw [hvm]; exact State.WarmedH.refl s
  have hat' : ∀ w ∈ fx_atS own ic cls ix rx Y9 names, w.before args s' = true := fun w hw => vx_ot_at hW0 hvm.symm (hgood w (List.mem_cons_of_mem _ (List.mem_cons_of_mem _ hw))) (hat w hw)
  have hk' : (Cond.classLink own ik cls).before args s' = true := vx_ot_at hW0 hvm.symm (hgood _ List.mem_cons_self) hk
  have hini' : (Cond.initialized cls).before args s' = true := vx_ot_at hW0 hvm.symm (hgood _ (List.mem_cons_of_mem _ List.mem_cons_self)) hini
  have hU' : vx_Zq Bundle.tN "UNASSIGNED_STACK" Bundle.steD A s' s'.heap := by rw [hhp]; exact vx_Zq.moved hW0.alike (hU.kept hS.2.1)
  have hN' : vx_Zq Bundle.tN "SUPPRESSED_SENTINEL" Bundle.listD A s' s'.heap := by rw [hhp]; exact vx_Zq.moved hW0.alike (hN.kept hS.2.1)
  have h : ∀ w ∈ fx_own own ic cls ix rx Y9 names, w.before args s' = true := vx_own hat' (vx_isRefq hU'.1) (vx_isRefq hN'.1) hU'.2.word hN'.2.word
  have hown' : s'.vm.findClass own = some m.cls := by rw [hvm]; exact hown
  have hins : (Cond.instantiable cls 6).before args s' = true := h _ (by simp [fx_own])
  obtain ⟨vm₁, cX, kX, hfX, hkX, -, -, X₁, st1⟩ := Y.newCold hexec (own := own) (C := cls) (index := ik) (n := 6) hown' hk' hins hini'
    (g := F0 m pc ls rest) rfl (by rw [hb]; exact d0) (Nat.le_refl _) (Nat.le_refl _)
  generalize hT1 : (T.setVm vm₁).pushCell { cls := cX, slots := kX.instanceTypes.map defaultValue, vm := .none } = T1 at X₁ st1
  have hcat : (Value.ref T.heap.size).category = 1 := rfl
  have hcellA : T1.heap[T.heap.size]? = some (freshCell cX kX) := by rw [← hT1]; exact State.heap_pushCell_size _ _
  have d3' : decode c.code (pc + 3) = .ok (.dup, 1) := by rw [hb]; exact d3
  have d4' : decode c.code (pc + 4) = .ok (.ldc is, 2) := by rw [hb]; exact d4
  have hstr' : vk_R own is text sa s' := vk_R.warm hW0 hstr
  obtain ⟨U, hsteps, hrun, hend, hW, hsame, ce, hce, hOc, hOv⟩ := fx_ctor X₁ hexec htr (own := own) (cls := cls) (Y9 := Y9) (names := names) (ic := ic) x0 x1 x2 x5 hown' hcls hY9 hnames h (fun x hx => nomatch hx) hfX hkX hcellA (by rw [hhp, hT]; exact Nat.le_refl _) (msg := .ref sa) rfl
    (g := { method := m, pc := pc + 6, locals := ls, stack := .ref sa :: .ref T.heap.size :: .ref T.heap.size :: rest, locked := none }) rfl hsize rfl rfl (rest := rest) rfl
    (by rw [hb]; exact d6) (by rw [hb]; exact d9) hout hRframes (by simp only [List.map_cons, List.sum_cons, hcat]; omega) hlocks
  obtain ⟨f1, f2⟩ := vx_frame hsame
  rw [hhp] at f1 f2
  have hWs : s.WarmedH U.vm := State.WarmedH.trans hW0 hW
  have hcl : s.vm.findClass cls = some ce.cls := by
    rw [hOc, ← hvm]
    exact hfX
  have hall : s.sameButNew ({ U with vm := s.vm } : State) locs mc ms := by
    subst hA
    obtain ⟨e1, e2⟩ := hsame
    rw [State.setFrames_setFrames] at e1
    have h2 : (T.setVm s.vm).sameButNew ({ U with vm := s.vm } : State) [] (0 + 1) (0 + 6) := ⟨e1, e2⟩
    have h3 := X.same.trans h2
    rw [List.append_nil] at h3
    exact h3.mono hc hs
  refine ⟨U, ?_, .threw T.heap.size, hrun, hend, Or.inr ⟨T.heap.size, rfl, cls, ce, locs, hx U hWs.alike f1 (fun q hq => f2 q hq (fun z hz => nomatch hz)), hce, hOv, hcl, hWs, hall, hf⟩⟩
  refine st1 _ ?_
  show Steps p.tables e below (T1.setTop { method := m, pc := pc + 3, locals := ls, stack := .ref T.heap.size :: rest, locked := none }) _
  jvm_step X₁.here [X₁.here.top, hexec, d3', Value.category]
  exact X₁.ldcString hexec (own := own) (text := text) (index := is) (a := sa) hown' hstr'.1 hstr'.2
    (g := { method := m, pc := pc + 4, locals := ls, stack := .ref T.heap.size :: .ref T.heap.size :: rest, locked := none }) rfl d4' _ hsteps
end
end FXT
def wsX0_init : List Cond := .code yX0_init cX0_init 1 none :: ([.methodLink RX0 3 objectInit, .instanceMethod objectInit, .code objectInit ⟨#[0xb1]⟩ 1 none, .arrayClass .int, .fieldLink RX0 11 "Formationist$LinkCounts" "linksWithin" "[I"] ++ wsX00)
def wsJ7_fill_53178 : List Cond := .code yJ7_fill_53178 cJ7_fill_53178 4 none :: ([])
def wsX1_with : List Cond := .code yX1_with cX1_with 2 (some .int) :: ([])
def wsX1_holds : List Cond := .code yX1_holds cX1_holds 2 (some .boolean) :: ([])
def wsX1_joins : List Cond := .code yX1_joins cX1_joins 3 (some .boolean) :: ([.fieldLink RX1 9 "Formationist$Net" "others" "[I", .methodLink RX1 28 yX1_holds, .static yX1_holds, .initialized RX1, .code yX1_holds cX1_holds 2 (some .boolean)] ++ wsX10)
def wsJ6_bitCount_0f7a4 : List Cond := .code yJ6_bitCount_0f7a4 cJ6_bitCount_0f7a4 1 (some .int) :: ([.constant RJ6 265 (1431655765), .constant RJ6 266 (858993459), .constant RJ6 267 (252645135)])
def wsX0_leavesFree : List Cond := .code yX0_leavesFree cX0_leavesFree 4 (some .boolean) :: ([.fieldLink RX0 11 "Formationist$LinkCounts" "linksWithin" "[I", .methodLink RX0 39 yJ6_bitCount_0f7a4, .static yJ6_bitCount_0f7a4, .initialized RJ6, .code yJ6_bitCount_0f7a4 cJ6_bitCount_0f7a4 1 (some .int), .constant RJ6 265 (1431655765), .constant RJ6 266 (858993459), .constant RJ6 267 (252645135)] ++ wsX00)
def wsX0_keepLink : List Cond := .code yX0_keepLink cX0_keepLink 3 none :: ([.fieldLink RX0 11 "Formationist$LinkCounts" "linksWithin" "[I"] ++ wsX00)
def wsX0_rankOf_r1 : List Cond := [Cond.fieldLink RX0 11 "Formationist$LinkCounts" "linksWithin" "[I", Cond.methodLink RX0 15 yJ7_fill_53178, Cond.static yJ7_fill_53178, Cond.initialized RJ7, Cond.code yJ7_fill_53178 cJ7_fill_53178 4 none, Cond.static yX1_with, Cond.initialized RX1, Cond.code yX1_with cX1_with 2 (some .int), Cond.instanceMethod yX1_joins, Cond.selects RX1 yX1_joins yX1_joins, Cond.code yX1_joins cX1_joins 3 (some .boolean), Cond.fieldLink RX1 9 "Formationist$Net" "others" "[I", Cond.methodLink RX1 28 yX1_holds, Cond.static yX1_holds, Cond.code yX1_holds cX1_holds 2 (some .boolean), Cond.methodLink RX0 31 yX0_leavesFree, Cond.instanceMethod yX0_leavesFree, Cond.selects RX0 yX0_leavesFree yX0_leavesFree, Cond.initialized RX0, Cond.code yX0_leavesFree cX0_leavesFree 4 (some .boolean), Cond.methodLink RX0 39 yJ6_bitCount_0f7a4, Cond.static yJ6_bitCount_0f7a4, Cond.initialized RJ6, Cond.code yJ6_bitCount_0f7a4 cJ6_bitCount_0f7a4 1 (some .int)]
def wsX0_rankOf_r2 : List Cond := [Cond.constant RJ6 265 (1431655765), Cond.constant RJ6 266 (858993459), Cond.constant RJ6 267 (252645135), Cond.methodLink RX0 35 yX0_keepLink, Cond.instanceMethod yX0_keepLink, Cond.selects RX0 yX0_keepLink yX0_keepLink, Cond.code yX0_keepLink cX0_keepLink 3 none]
def wsX0_rankOf : List Cond := .code yX0_rankOf cX0_rankOf 6 (some .int) :: ((wsX0_rankOf_r1 ++ wsX0_rankOf_r2) ++ wsX00 ++ wsX10)
def wsX1_init : List Cond := .code yX1_init cX1_init 1 none :: ([.methodLink RX1 3 objectInit, .instanceMethod objectInit, .code objectInit ⟨#[0xb1]⟩ 1 none, .arrayClass .int, .fieldLink RX1 9 "Formationist$Net" "others" "[I"] ++ wsX10)
def wsX1_without : List Cond := .code yX1_without cX1_without 2 (some .int) :: ([])
def wsX1_clear : List Cond := .code yX1_clear cX1_clear 1 none :: ([.fieldLink RX1 9 "Formationist$Net" "others" "[I", .methodLink RX1 15 yJ7_fill_53178, .static yJ7_fill_53178, .initialized RJ7, .code yJ7_fill_53178 cJ7_fill_53178 4 none] ++ wsX10)
def wsX1_join : List Cond := .code yX1_join cX1_join 3 none :: ([.fieldLink RX1 9 "Formationist$Net" "others" "[I", .methodLink RX1 21 yX1_with, .static yX1_with, .initialized RX1, .code yX1_with cX1_with 2 (some .int)] ++ wsX10)
def wsX1_cut : List Cond := .code yX1_cut cX1_cut 3 none :: ([.fieldLink RX1 9 "Formationist$Net" "others" "[I", .methodLink RX1 25 yX1_without, .static yX1_without, .initialized RX1, .code yX1_without cX1_without 2 (some .int)] ++ wsX10)
def wsX1_degreeOf : List Cond := .code yX1_degreeOf cX1_degreeOf 2 (some .int) :: ([.fieldLink RX1 9 "Formationist$Net" "others" "[I", .methodLink RX1 32 yJ6_bitCount_0f7a4, .static yJ6_bitCount_0f7a4, .initialized RJ6, .code yJ6_bitCount_0f7a4 cJ6_bitCount_0f7a4 1 (some .int), .constant RJ6 265 (1431655765), .constant RJ6 266 (858993459), .constant RJ6 267 (252645135)] ++ wsX10)
def wsX1_pairCount : List Cond := .code yX1_pairCount cX1_pairCount 3 (some .int) :: ([.methodLink RX1 38 yX1_degreeOf, .instanceMethod yX1_degreeOf, .selects RX1 yX1_degreeOf yX1_degreeOf, .initialized RX1, .code yX1_degreeOf cX1_degreeOf 2 (some .int), .fieldLink RX1 9 "Formationist$Net" "others" "[I", .methodLink RX1 32 yJ6_bitCount_0f7a4, .static yJ6_bitCount_0f7a4, .initialized RJ6, .code yJ6_bitCount_0f7a4 cJ6_bitCount_0f7a4 1 (some .int), .constant RJ6 265 (1431655765), .constant RJ6 266 (858993459), .constant RJ6 267 (252645135)] ++ wsX10)
def wsX1_groupOf : List Cond := .code yX1_groupOf cX1_groupOf 6 (some .int) :: ([.fieldLink RX1 9 "Formationist$Net" "others" "[I", .methodLink RX1 21 yX1_with, .static yX1_with, .initialized RX1, .code yX1_with cX1_with 2 (some .int), .methodLink RX1 28 yX1_holds, .static yX1_holds, .code yX1_holds cX1_holds 2 (some .boolean)] ++ wsX10)
def wsX2_init : List Cond := .code yX2_init cX2_init 1 none :: ([.methodLink RX2 3 objectInit, .instanceMethod objectInit, .code objectInit ⟨#[0xb1]⟩ 1 none, .arrayClass .int, .fieldLink RX2 9 "Formationist$PebbleGame" "pebbles" "[I", .fieldLink RX2 15 "Formationist$PebbleGame" "arcs" "[I", .fieldLink RX2 18 "Formationist$PebbleGame" "cameFrom" "[I"] ++ wsX20)
def wsX2_noteWay : List Cond := .code yX2_noteWay cX2_noteWay 4 none :: ([.fieldLink RX2 18 "Formationist$PebbleGame" "cameFrom" "[I", .static yX1_holds, .initialized RX1, .code yX1_holds cX1_holds 2 (some .boolean)] ++ wsX20)
def wsX2_holderAmong : List Cond := .code yX2_holderAmong cX2_holderAmong 3 (some .int) :: ([.fieldLink RX2 9 "Formationist$PebbleGame" "pebbles" "[I", .static yX1_holds, .initialized RX1, .code yX1_holds cX1_holds 2 (some .boolean)] ++ wsX20)
def wsX2_findPebble : List Cond := .code yX2_findPebble cX2_findPebble 9 (some .int) :: ([.fieldLink RX2 18 "Formationist$PebbleGame" "cameFrom" "[I", .fieldLink RX2 15 "Formationist$PebbleGame" "arcs" "[I", .methodLink RX2 21 yJ7_fill_53178, .static yJ7_fill_53178, .initialized RJ7, .code yJ7_fill_53178 cJ7_fill_53178 4 none, .static yX1_with, .initialized RX1, .code yX1_with cX1_with 2 (some .int), .static yX1_holds, .code yX1_holds cX1_holds 2 (some .boolean), .methodLink RX2 53 yX2_noteWay, .instanceMethod yX2_noteWay, .selects RX2 yX2_noteWay yX2_noteWay, .initialized RX2, .code yX2_noteWay cX2_noteWay 4 none, .methodLink RX2 57 yX2_holderAmong, .instanceMethod yX2_holderAmong, .selects RX2 yX2_holderAmong yX2_holderAmong, .code yX2_holderAmong cX2_holderAmong 3 (some .int), .fieldLink RX2 9 "Formationist$PebbleGame" "pebbles" "[I"] ++ wsX20)
def wsX2_turnArcs : List Cond := .code yX2_turnArcs cX2_turnArcs 5 none :: ([.fieldLink RX2 18 "Formationist$PebbleGame" "cameFrom" "[I", .fieldLink RX2 15 "Formationist$PebbleGame" "arcs" "[I", .static yX1_without, .initialized RX1, .code yX1_without cX1_without 2 (some .int), .static yX1_with, .code yX1_with cX1_with 2 (some .int)] ++ wsX20)
def wsX2_fetchPebble_r1 : List Cond := [Cond.fieldLink RX2 9 "Formationist$PebbleGame" "pebbles" "[I", Cond.methodLink RX2 43 yX2_findPebble, Cond.instanceMethod yX2_findPebble, Cond.selects RX2 yX2_findPebble yX2_findPebble, Cond.initialized RX2, Cond.code yX2_findPebble cX2_findPebble 9 (some .int), Cond.fieldLink RX2 18 "Formationist$PebbleGame" "cameFrom" "[I", Cond.fieldLink RX2 15 "Formationist$PebbleGame" "arcs" "[I", Cond.methodLink RX2 21 yJ7_fill_53178, Cond.static yJ7_fill_53178, Cond.initialized RJ7, Cond.code yJ7_fill_53178 cJ7_fill_53178 4 none, Cond.static yX1_with, Cond.initialized RX1, Cond.code yX1_with cX1_with 2 (some .int), Cond.static yX1_holds, Cond.code yX1_holds cX1_holds 2 (some .boolean), Cond.methodLink RX2 53 yX2_noteWay, Cond.instanceMethod yX2_noteWay, Cond.selects RX2 yX2_noteWay yX2_noteWay, Cond.code yX2_noteWay cX2_noteWay 4 none, Cond.methodLink RX2 57 yX2_holderAmong, Cond.instanceMethod yX2_holderAmong, Cond.selects RX2 yX2_holderAmong yX2_holderAmong]
def wsX2_fetchPebble_r2 : List Cond := [Cond.code yX2_holderAmong cX2_holderAmong 3 (some .int), Cond.methodLink RX2 46 yX2_turnArcs, Cond.instanceMethod yX2_turnArcs, Cond.selects RX2 yX2_turnArcs yX2_turnArcs, Cond.code yX2_turnArcs cX2_turnArcs 5 none, Cond.static yX1_without, Cond.code yX1_without cX1_without 2 (some .int)]
def wsX2_fetchPebble : List Cond := .code yX2_fetchPebble cX2_fetchPebble 4 (some .boolean) :: ((wsX2_fetchPebble_r1 ++ wsX2_fetchPebble_r2) ++ wsX20)
def wsX2_gatherPebbles_r1 : List Cond := [Cond.fieldLink RX2 9 "Formationist$PebbleGame" "pebbles" "[I", Cond.methodLink RX2 40 yX2_fetchPebble, Cond.instanceMethod yX2_fetchPebble, Cond.selects RX2 yX2_fetchPebble yX2_fetchPebble, Cond.initialized RX2, Cond.code yX2_fetchPebble cX2_fetchPebble 4 (some .boolean), Cond.methodLink RX2 43 yX2_findPebble, Cond.instanceMethod yX2_findPebble, Cond.selects RX2 yX2_findPebble yX2_findPebble, Cond.code yX2_findPebble cX2_findPebble 9 (some .int), Cond.fieldLink RX2 18 "Formationist$PebbleGame" "cameFrom" "[I", Cond.fieldLink RX2 15 "Formationist$PebbleGame" "arcs" "[I", Cond.methodLink RX2 21 yJ7_fill_53178, Cond.static yJ7_fill_53178, Cond.initialized RJ7, Cond.code yJ7_fill_53178 cJ7_fill_53178 4 none, Cond.static yX1_with, Cond.initialized RX1, Cond.code yX1_with cX1_with 2 (some .int), Cond.static yX1_holds, Cond.code yX1_holds cX1_holds 2 (some .boolean), Cond.methodLink RX2 53 yX2_noteWay, Cond.instanceMethod yX2_noteWay, Cond.selects RX2 yX2_noteWay yX2_noteWay]
def wsX2_gatherPebbles_r2 : List Cond := [Cond.code yX2_noteWay cX2_noteWay 4 none, Cond.methodLink RX2 57 yX2_holderAmong, Cond.instanceMethod yX2_holderAmong, Cond.selects RX2 yX2_holderAmong yX2_holderAmong, Cond.code yX2_holderAmong cX2_holderAmong 3 (some .int), Cond.methodLink RX2 46 yX2_turnArcs, Cond.instanceMethod yX2_turnArcs, Cond.selects RX2 yX2_turnArcs yX2_turnArcs, Cond.code yX2_turnArcs cX2_turnArcs 5 none, Cond.static yX1_without, Cond.code yX1_without cX1_without 2 (some .int)]
def wsX2_gatherPebbles : List Cond := .code yX2_gatherPebbles cX2_gatherPebbles 4 (some .boolean) :: ((wsX2_gatherPebbles_r1 ++ wsX2_gatherPebbles_r2) ++ wsX20)
def wsX2_rankOf_r1 : List Cond := [Cond.fieldLink RX2 9 "Formationist$PebbleGame" "pebbles" "[I", Cond.fieldLink RX2 15 "Formationist$PebbleGame" "arcs" "[I", Cond.methodLink RX2 21 yJ7_fill_53178, Cond.static yJ7_fill_53178, Cond.initialized RJ7, Cond.code yJ7_fill_53178 cJ7_fill_53178 4 none, Cond.instanceMethod yX1_joins, Cond.initialized RX1, Cond.selects RX1 yX1_joins yX1_joins, Cond.code yX1_joins cX1_joins 3 (some .boolean), Cond.fieldLink RX1 9 "Formationist$Net" "others" "[I", Cond.methodLink RX1 28 yX1_holds, Cond.static yX1_holds, Cond.code yX1_holds cX1_holds 2 (some .boolean), Cond.methodLink RX2 33 yX2_gatherPebbles, Cond.instanceMethod yX2_gatherPebbles, Cond.selects RX2 yX2_gatherPebbles yX2_gatherPebbles, Cond.initialized RX2, Cond.code yX2_gatherPebbles cX2_gatherPebbles 4 (some .boolean), Cond.methodLink RX2 40 yX2_fetchPebble, Cond.instanceMethod yX2_fetchPebble, Cond.selects RX2 yX2_fetchPebble yX2_fetchPebble, Cond.code yX2_fetchPebble cX2_fetchPebble 4 (some .boolean), Cond.methodLink RX2 43 yX2_findPebble]
def wsX2_rankOf_r2 : List Cond := [Cond.instanceMethod yX2_findPebble, Cond.selects RX2 yX2_findPebble yX2_findPebble, Cond.code yX2_findPebble cX2_findPebble 9 (some .int), Cond.fieldLink RX2 18 "Formationist$PebbleGame" "cameFrom" "[I", Cond.static yX1_with, Cond.code yX1_with cX1_with 2 (some .int), Cond.methodLink RX2 53 yX2_noteWay, Cond.instanceMethod yX2_noteWay, Cond.selects RX2 yX2_noteWay yX2_noteWay, Cond.code yX2_noteWay cX2_noteWay 4 none, Cond.methodLink RX2 57 yX2_holderAmong, Cond.instanceMethod yX2_holderAmong, Cond.selects RX2 yX2_holderAmong yX2_holderAmong, Cond.code yX2_holderAmong cX2_holderAmong 3 (some .int), Cond.methodLink RX2 46 yX2_turnArcs, Cond.instanceMethod yX2_turnArcs, Cond.selects RX2 yX2_turnArcs yX2_turnArcs, Cond.code yX2_turnArcs cX2_turnArcs 5 none, Cond.static yX1_without, Cond.code yX1_without cX1_without 2 (some .int)]
def wsX2_rankOf : List Cond := .code yX2_rankOf cX2_rankOf 5 (some .int) :: ((wsX2_rankOf_r1 ++ wsX2_rankOf_r2) ++ wsX20 ++ wsX10)
def wsX3_init : List Cond := .code yX3_init cX3_init 1 none :: ([.methodLink RX3 3 objectInit, .instanceMethod objectInit, .code objectInit ⟨#[0xb1]⟩ 1 none, .classLink RX3 9 "[[J", .arrayClass .long, .fieldLink RX3 11 "Formationist$TreeMatrix" "rows" "[[J"] ++ wsX30)
def wsJ6_numberOfTrailingZeros_0f7a4 : List Cond := .code yJ6_numberOfTrailingZeros_0f7a4 cJ6_numberOfTrailingZeros_0f7a4 2 (some .int) :: ([.constant RJ6 264 (65536)])
def wsX3_fillRow : List Cond := .code yX3_fillRow cX3_fillRow 6 none :: ([.constantLong RX3 47 (-1), .static yX1_holds, .initialized RX1, .code yX1_holds cX1_holds 2 (some .boolean), .instanceMethod yX1_joins, .selects RX1 yX1_joins yX1_joins, .code yX1_joins cX1_joins 3 (some .boolean), .fieldLink RX1 9 "Formationist$Net" "others" "[I", .methodLink RX1 28 yX1_holds, .instanceMethod yX1_degreeOf, .selects RX1 yX1_degreeOf yX1_degreeOf, .code yX1_degreeOf cX1_degreeOf 2 (some .int), .methodLink RX1 32 yJ6_bitCount_0f7a4, .static yJ6_bitCount_0f7a4, .initialized RJ6, .code yJ6_bitCount_0f7a4 cJ6_bitCount_0f7a4 1 (some .int), .constant RJ6 265 (1431655765), .constant RJ6 266 (858993459), .constant RJ6 267 (252645135)] ++ wsX10)
def wsX3_fill : List Cond := .code yX3_fill cX3_fill 5 (some .int) :: ([.fieldLink RX3 11 "Formationist$TreeMatrix" "rows" "[[J", .static yX1_holds, .initialized RX1, .code yX1_holds cX1_holds 2 (some .boolean), .methodLink RX3 40 yX3_fillRow, .static yX3_fillRow, .initialized RX3, .code yX3_fillRow cX3_fillRow 6 none, .constantLong RX3 47 (-1), .instanceMethod yX1_joins, .selects RX1 yX1_joins yX1_joins, .code yX1_joins cX1_joins 3 (some .boolean), .fieldLink RX1 9 "Formationist$Net" "others" "[I", .methodLink RX1 28 yX1_holds, .instanceMethod yX1_degreeOf, .selects RX1 yX1_degreeOf yX1_degreeOf, .code yX1_degreeOf cX1_degreeOf 2 (some .int), .methodLink RX1 32 yJ6_bitCount_0f7a4, .static yJ6_bitCount_0f7a4, .initialized RJ6, .code yJ6_bitCount_0f7a4 cJ6_bitCount_0f7a4 1 (some .int), .constant RJ6 265 (1431655765), .constant RJ6 266 (858993459), .constant RJ6 267 (252645135)] ++ wsX30 ++ wsX10)
def wsX3_determinant : List Cond := .code yX3_determinant cX3_determinant 11 (some .long) :: ([.fieldLink RX3 11 "Formationist$TreeMatrix" "rows" "[[J"] ++ wsX30)
def wsX3_treesOf_r1 : List Cond := [Cond.methodLink RX3 16 yJ6_numberOfTrailingZeros_0f7a4, Cond.static yJ6_numberOfTrailingZeros_0f7a4, Cond.initialized RJ6, Cond.code yJ6_numberOfTrailingZeros_0f7a4 cJ6_numberOfTrailingZeros_0f7a4 2 (some .int), Cond.constant RJ6 264 (65536), Cond.static yX1_without, Cond.initialized RX1, Cond.code yX1_without cX1_without 2 (some .int), Cond.methodLink RX3 28 yX3_fill, Cond.instanceMethod yX3_fill, Cond.selects RX3 yX3_fill yX3_fill, Cond.initialized RX3, Cond.code yX3_fill cX3_fill 5 (some .int), Cond.fieldLink RX3 11 "Formationist$TreeMatrix" "rows" "[[J", Cond.static yX1_holds, Cond.code yX1_holds cX1_holds 2 (some .boolean), Cond.methodLink RX3 40 yX3_fillRow, Cond.static yX3_fillRow, Cond.code yX3_fillRow cX3_fillRow 6 none, Cond.constantLong RX3 47 (-1), Cond.instanceMethod yX1_joins, Cond.selects RX1 yX1_joins yX1_joins, Cond.code yX1_joins cX1_joins 3 (some .boolean), Cond.fieldLink RX1 9 "Formationist$Net" "others" "[I"]
def wsX3_treesOf_r2 : List Cond := [Cond.methodLink RX1 28 yX1_holds, Cond.instanceMethod yX1_degreeOf, Cond.selects RX1 yX1_degreeOf yX1_degreeOf, Cond.code yX1_degreeOf cX1_degreeOf 2 (some .int), Cond.methodLink RX1 32 yJ6_bitCount_0f7a4, Cond.static yJ6_bitCount_0f7a4, Cond.code yJ6_bitCount_0f7a4 cJ6_bitCount_0f7a4 1 (some .int), Cond.constant RJ6 265 (1431655765), Cond.constant RJ6 266 (858993459), Cond.constant RJ6 267 (252645135), Cond.methodLink RX3 32 yX3_determinant, Cond.instanceMethod yX3_determinant, Cond.selects RX3 yX3_determinant yX3_determinant, Cond.code yX3_determinant cX3_determinant 11 (some .long)]
def wsX3_treesOf : List Cond := .code yX3_treesOf cX3_treesOf 4 (some .long) :: ((wsX3_treesOf_r1 ++ wsX3_treesOf_r2) ++ wsX30 ++ wsX10)
def wsX4_init_r1 : List Cond := [Cond.methodLink RX4 1 objectInit, Cond.instanceMethod objectInit, Cond.code objectInit ⟨#[0xb1]⟩ 1 none, Cond.arrayClass .int, Cond.fieldLink RX4 9 "Formationist" "xs" "[I", Cond.fieldLink RX4 13 "Formationist" "ys" "[I", Cond.arrayClass .boolean, Cond.fieldLink RX4 16 "Formationist" "ups" "[Z", Cond.fieldLink RX4 20 "Formationist" "priorities" "[I", Cond.fieldLink RX4 23 "Formationist" "estimates" "[I", Cond.fieldLink RX4 26 "Formationist" "sums" "[I", Cond.fieldLink RX4 29 "Formationist" "weights" "[I", Cond.fieldLink RX4 32 "Formationist" "lastReceivers" "[I", Cond.classLink RX4 35 "[[I", Cond.fieldLink RX4 37 "Formationist" "wantedSquares" "[[I", Cond.classLink RX4 40 RX1, Cond.instantiable RX1 1, Cond.initialized RX1, Cond.fieldLink RX4 43 "Formationist" "blocked" "LFormationist$Net;", Cond.fieldLink RX4 47 "Formationist" "count" "I", Cond.fieldLink RX4 51 "Formationist" "range" "I", Cond.fieldLink RX4 54 "Formationist" "net" "LFormationist$Net;", Cond.fieldLink RX4 57 "Formationist" "changes" "[I", Cond.fieldLink RX4 60 "Formationist" "moreChanges" "[I"]
def wsX4_init_r2 : List Cond := [Cond.classLink RX4 63 RX2, Cond.instantiable RX2 3, Cond.initialized RX2, Cond.fieldLink RX4 66 "Formationist" "pebbleGame" "LFormationist$PebbleGame;", Cond.classLink RX4 70 RX0, Cond.instantiable RX0 1, Cond.initialized RX0, Cond.fieldLink RX4 73 "Formationist" "linkCounts" "LFormationist$LinkCounts;", Cond.classLink RX4 77 RX3, Cond.instantiable RX3 1, Cond.initialized RX3, Cond.fieldLink RX4 80 "Formationist" "treeMatrix" "LFormationist$TreeMatrix;", Cond.instanceMethod yX1_init, Cond.code yX1_init cX1_init 1 none, Cond.methodLink RX1 3 objectInit, Cond.fieldLink RX1 9 "Formationist$Net" "others" "[I", Cond.instanceMethod yX2_init, Cond.code yX2_init cX2_init 1 none, Cond.methodLink RX2 3 objectInit, Cond.fieldLink RX2 9 "Formationist$PebbleGame" "pebbles" "[I", Cond.fieldLink RX2 15 "Formationist$PebbleGame" "arcs" "[I", Cond.fieldLink RX2 18 "Formationist$PebbleGame" "cameFrom" "[I", Cond.instanceMethod yX0_init, Cond.code yX0_init cX0_init 1 none]
def wsX4_init_r3 : List Cond := [Cond.methodLink RX0 3 objectInit, Cond.fieldLink RX0 11 "Formationist$LinkCounts" "linksWithin" "[I", Cond.instanceMethod yX3_init, Cond.code yX3_init cX3_init 1 none, Cond.methodLink RX3 3 objectInit, Cond.classLink RX3 9 "[[J", Cond.arrayClass .long, Cond.fieldLink RX3 11 "Formationist$TreeMatrix" "rows" "[[J", Cond.methodLink RX4 84 yJ7_fill_53178, Cond.static yJ7_fill_53178, Cond.initialized RJ7, Cond.code yJ7_fill_53178 cJ7_fill_53178 4 none]
def wsX4_init : List Cond := .code yX4_init cX4_init 2 none :: ((wsX4_init_r1 ++ (wsX4_init_r2 ++ wsX4_init_r3)) ++ wsX40 ++ wsX10 ++ wsX20 ++ wsX00 ++ wsX30)
def wsX4_requireWithin : List Cond := .code yX4_requireWithin cX4_requireWithin 3 none :: ([.classLink RX4 206 "java/lang/IllegalArgumentException", .initialized "java/lang/IllegalArgumentException"] ++ (vx_atS RX4 210 "java/lang/IllegalArgumentException" ["java/lang/RuntimeException", "java/lang/Exception"]).filter goodWord)
def wsX4_requirePlace : List Cond := .code yX4_requirePlace cX4_requirePlace 2 none :: ([.methodLink RX4 105 yX4_requireWithin, .static yX4_requireWithin, .initialized RX4, .code yX4_requireWithin cX4_requireWithin 3 none, .classLink RX4 206 "java/lang/IllegalArgumentException", .initialized "java/lang/IllegalArgumentException"] ++ (vx_atS RX4 210 "java/lang/IllegalArgumentException" ["java/lang/RuntimeException", "java/lang/Exception"]).filter goodWord)
def wsX4_addMember : List Cond := .code yX4_addMember cX4_addMember 4 (some .int) :: ([.classLink RX4 94 "java/lang/IllegalStateException", .initialized "java/lang/IllegalStateException", .fieldLink RX4 47 "Formationist" "count" "I", .fieldLink RX4 9 "Formationist" "xs" "[I", .fieldLink RX4 13 "Formationist" "ys" "[I", .fieldLink RX4 16 "Formationist" "ups" "[Z", .fieldLink RX4 29 "Formationist" "weights" "[I", .fieldLink RX4 32 "Formationist" "lastReceivers" "[I", .methodLink RX4 90 yX4_requirePlace, .static yX4_requirePlace, .initialized RX4, .code yX4_requirePlace cX4_requirePlace 2 none, .methodLink RX4 105 yX4_requireWithin, .static yX4_requireWithin, .code yX4_requireWithin cX4_requireWithin 3 none, .classLink RX4 206 "java/lang/IllegalArgumentException", .initialized "java/lang/IllegalArgumentException"] ++ wsX40 ++ (vx_atS RX4 98 "java/lang/IllegalStateException" ["java/lang/RuntimeException", "java/lang/Exception"]).filter goodWord ++ (vx_atS RX4 210 "java/lang/IllegalArgumentException" ["java/lang/RuntimeException", "java/lang/Exception"]).filter goodWord)
def wsX4_requireMember : List Cond := .code yX4_requireMember cX4_requireMember 2 none :: ([.classLink RX4 201 "java/lang/IndexOutOfBoundsException", .initialized "java/lang/IndexOutOfBoundsException", .fieldLink RX4 47 "Formationist" "count" "I"] ++ wsX40 ++ (vx_atS RX4 205 "java/lang/IndexOutOfBoundsException" ["java/lang/RuntimeException", "java/lang/Exception"]).filter goodWord)
def wsX4_move : List Cond := .code yX4_move cX4_move 4 none :: ([.fieldLink RX4 9 "Formationist" "xs" "[I", .fieldLink RX4 13 "Formationist" "ys" "[I", .methodLink RX4 101 yX4_requireMember, .instanceMethod yX4_requireMember, .selects RX4 yX4_requireMember yX4_requireMember, .initialized RX4, .code yX4_requireMember cX4_requireMember 2 none, .classLink RX4 201 "java/lang/IndexOutOfBoundsException", .initialized "java/lang/IndexOutOfBoundsException", .fieldLink RX4 47 "Formationist" "count" "I", .methodLink RX4 90 yX4_requirePlace, .static yX4_requirePlace, .code yX4_requirePlace cX4_requirePlace 2 none, .methodLink RX4 105 yX4_requireWithin, .static yX4_requireWithin, .code yX4_requireWithin cX4_requireWithin 3 none, .classLink RX4 206 "java/lang/IllegalArgumentException", .initialized "java/lang/IllegalArgumentException"] ++ wsX40 ++ (vx_atS RX4 205 "java/lang/IndexOutOfBoundsException" ["java/lang/RuntimeException", "java/lang/Exception"]).filter goodWord ++ (vx_atS RX4 210 "java/lang/IllegalArgumentException" ["java/lang/RuntimeException", "java/lang/Exception"]).filter goodWord)
def wsX4_toggle : List Cond := .code yX4_toggle cX4_toggle 2 (some .boolean) :: ([.fieldLink RX4 16 "Formationist" "ups" "[Z", .methodLink RX4 101 yX4_requireMember, .instanceMethod yX4_requireMember, .selects RX4 yX4_requireMember yX4_requireMember, .initialized RX4, .code yX4_requireMember cX4_requireMember 2 none, .classLink RX4 201 "java/lang/IndexOutOfBoundsException", .initialized "java/lang/IndexOutOfBoundsException", .fieldLink RX4 47 "Formationist" "count" "I"] ++ wsX40 ++ (vx_atS RX4 205 "java/lang/IndexOutOfBoundsException" ["java/lang/RuntimeException", "java/lang/Exception"]).filter goodWord)
def wsX4_setPriority : List Cond := .code yX4_setPriority cX4_setPriority 4 (some .int) :: ([.fieldLink RX4 20 "Formationist" "priorities" "[I", .methodLink RX4 101 yX4_requireMember, .instanceMethod yX4_requireMember, .selects RX4 yX4_requireMember yX4_requireMember, .initialized RX4, .code yX4_requireMember cX4_requireMember 2 none, .classLink RX4 201 "java/lang/IndexOutOfBoundsException", .initialized "java/lang/IndexOutOfBoundsException", .fieldLink RX4 47 "Formationist" "count" "I", .methodLink RX4 105 yX4_requireWithin, .static yX4_requireWithin, .code yX4_requireWithin cX4_requireWithin 3 none, .classLink RX4 206 "java/lang/IllegalArgumentException", .initialized "java/lang/IllegalArgumentException"] ++ wsX40 ++ (vx_atS RX4 205 "java/lang/IndexOutOfBoundsException" ["java/lang/RuntimeException", "java/lang/Exception"]).filter goodWord ++ (vx_atS RX4 210 "java/lang/IllegalArgumentException" ["java/lang/RuntimeException", "java/lang/Exception"]).filter goodWord)
def wsX4_setRange : List Cond := .code yX4_setRange cX4_setRange 3 (some .int) :: ([.fieldLink RX4 51 "Formationist" "range" "I", .methodLink RX4 105 yX4_requireWithin, .static yX4_requireWithin, .initialized RX4, .code yX4_requireWithin cX4_requireWithin 3 none, .classLink RX4 206 "java/lang/IllegalArgumentException", .initialized "java/lang/IllegalArgumentException"] ++ wsX40 ++ (vx_atS RX4 210 "java/lang/IllegalArgumentException" ["java/lang/RuntimeException", "java/lang/Exception"]).filter goodWord)
def wsX4_requireUnlike : List Cond := .code yX4_requireUnlike cX4_requireUnlike 3 none :: ([.classLink RX4 206 "java/lang/IllegalArgumentException", .initialized "java/lang/IllegalArgumentException", .methodLink RX4 101 yX4_requireMember, .instanceMethod yX4_requireMember, .selects RX4 yX4_requireMember yX4_requireMember, .initialized RX4, .code yX4_requireMember cX4_requireMember 2 none, .classLink RX4 201 "java/lang/IndexOutOfBoundsException", .initialized "java/lang/IndexOutOfBoundsException", .fieldLink RX4 47 "Formationist" "count" "I"] ++ wsX40 ++ (vx_atS RX4 210 "java/lang/IllegalArgumentException" ["java/lang/RuntimeException", "java/lang/Exception"]).filter goodWord ++ (vx_atS RX4 205 "java/lang/IndexOutOfBoundsException" ["java/lang/RuntimeException", "java/lang/Exception"]).filter goodWord)
def wsX4_block_r1 : List Cond := [Cond.fieldLink RX4 43 "Formationist" "blocked" "LFormationist$Net;", Cond.methodLink RX4 109 yX4_requireUnlike, Cond.instanceMethod yX4_requireUnlike, Cond.selects RX4 yX4_requireUnlike yX4_requireUnlike, Cond.initialized RX4, Cond.code yX4_requireUnlike cX4_requireUnlike 3 none, Cond.classLink RX4 206 "java/lang/IllegalArgumentException", Cond.initialized "java/lang/IllegalArgumentException", Cond.methodLink RX4 101 yX4_requireMember, Cond.instanceMethod yX4_requireMember, Cond.selects RX4 yX4_requireMember yX4_requireMember, Cond.code yX4_requireMember cX4_requireMember 2 none, Cond.classLink RX4 201 "java/lang/IndexOutOfBoundsException", Cond.initialized "java/lang/IndexOutOfBoundsException", Cond.fieldLink RX4 47 "Formationist" "count" "I", Cond.instanceMethod yX1_joins, Cond.initialized RX1, Cond.selects RX1 yX1_joins yX1_joins, Cond.code yX1_joins cX1_joins 3 (some .boolean), Cond.fieldLink RX1 9 "Formationist$Net" "others" "[I", Cond.methodLink RX1 28 yX1_holds, Cond.static yX1_holds, Cond.code yX1_holds cX1_holds 2 (some .boolean), Cond.instanceMethod yX1_cut]
def wsX4_block_r2 : List Cond := [Cond.selects RX1 yX1_cut yX1_cut, Cond.code yX1_cut cX1_cut 3 none, Cond.methodLink RX1 25 yX1_without, Cond.static yX1_without, Cond.code yX1_without cX1_without 2 (some .int), Cond.instanceMethod yX1_join, Cond.selects RX1 yX1_join yX1_join, Cond.code yX1_join cX1_join 3 none, Cond.methodLink RX1 21 yX1_with, Cond.static yX1_with, Cond.code yX1_with cX1_with 2 (some .int)]
def wsX4_block : List Cond := .code yX4_block cX4_block 3 (some .boolean) :: ((wsX4_block_r1 ++ wsX4_block_r2) ++ wsX40 ++ wsX10 ++ (vx_atS RX4 210 "java/lang/IllegalArgumentException" ["java/lang/RuntimeException", "java/lang/Exception"]).filter goodWord ++ (vx_atS RX4 205 "java/lang/IndexOutOfBoundsException" ["java/lang/RuntimeException", "java/lang/Exception"]).filter goodWord)
def wsX4_members : List Cond := .code yX4_members cX4_members 1 (some .int) :: ([.fieldLink RX4 47 "Formationist" "count" "I"] ++ wsX40)
def wsX4_xOf : List Cond := .code yX4_xOf cX4_xOf 2 (some .int) :: ([.fieldLink RX4 9 "Formationist" "xs" "[I", .methodLink RX4 101 yX4_requireMember, .instanceMethod yX4_requireMember, .selects RX4 yX4_requireMember yX4_requireMember, .initialized RX4, .code yX4_requireMember cX4_requireMember 2 none, .classLink RX4 201 "java/lang/IndexOutOfBoundsException", .initialized "java/lang/IndexOutOfBoundsException", .fieldLink RX4 47 "Formationist" "count" "I"] ++ wsX40 ++ (vx_atS RX4 205 "java/lang/IndexOutOfBoundsException" ["java/lang/RuntimeException", "java/lang/Exception"]).filter goodWord)
def wsX4_yOf : List Cond := .code yX4_yOf cX4_yOf 2 (some .int) :: ([.fieldLink RX4 13 "Formationist" "ys" "[I", .methodLink RX4 101 yX4_requireMember, .instanceMethod yX4_requireMember, .selects RX4 yX4_requireMember yX4_requireMember, .initialized RX4, .code yX4_requireMember cX4_requireMember 2 none, .classLink RX4 201 "java/lang/IndexOutOfBoundsException", .initialized "java/lang/IndexOutOfBoundsException", .fieldLink RX4 47 "Formationist" "count" "I"] ++ wsX40 ++ (vx_atS RX4 205 "java/lang/IndexOutOfBoundsException" ["java/lang/RuntimeException", "java/lang/Exception"]).filter goodWord)
def wsX4_squareBetween : List Cond := .code yX4_squareBetween cX4_squareBetween 5 (some .int) :: ([.fieldLink RX4 9 "Formationist" "xs" "[I", .fieldLink RX4 13 "Formationist" "ys" "[I"] ++ wsX40)
def wsX4_hears : List Cond := .code yX4_hears cX4_hears 3 (some .boolean) :: ([.fieldLink RX4 16 "Formationist" "ups" "[Z", .fieldLink RX4 43 "Formationist" "blocked" "LFormationist$Net;", .fieldLink RX4 51 "Formationist" "range" "I", .instanceMethod yX1_joins, .initialized RX1, .selects RX1 yX1_joins yX1_joins, .code yX1_joins cX1_joins 3 (some .boolean), .fieldLink RX1 9 "Formationist$Net" "others" "[I", .methodLink RX1 28 yX1_holds, .static yX1_holds, .code yX1_holds cX1_holds 2 (some .boolean), .methodLink RX4 215 yX4_squareBetween, .instanceMethod yX4_squareBetween, .selects RX4 yX4_squareBetween yX4_squareBetween, .initialized RX4, .code yX4_squareBetween cX4_squareBetween 5 (some .int), .fieldLink RX4 9 "Formationist" "xs" "[I", .fieldLink RX4 13 "Formationist" "ys" "[I"] ++ wsX40 ++ wsX10)
def wsX4_areLinked_r1 : List Cond := [Cond.methodLink RX4 101 yX4_requireMember, Cond.instanceMethod yX4_requireMember, Cond.selects RX4 yX4_requireMember yX4_requireMember, Cond.initialized RX4, Cond.code yX4_requireMember cX4_requireMember 2 none, Cond.classLink RX4 201 "java/lang/IndexOutOfBoundsException", Cond.initialized "java/lang/IndexOutOfBoundsException", Cond.fieldLink RX4 47 "Formationist" "count" "I", Cond.methodLink RX4 122 yX4_hears, Cond.instanceMethod yX4_hears, Cond.selects RX4 yX4_hears yX4_hears, Cond.code yX4_hears cX4_hears 3 (some .boolean), Cond.fieldLink RX4 16 "Formationist" "ups" "[Z", Cond.fieldLink RX4 43 "Formationist" "blocked" "LFormationist$Net;", Cond.fieldLink RX4 51 "Formationist" "range" "I", Cond.instanceMethod yX1_joins, Cond.initialized RX1, Cond.selects RX1 yX1_joins yX1_joins, Cond.code yX1_joins cX1_joins 3 (some .boolean), Cond.fieldLink RX1 9 "Formationist$Net" "others" "[I", Cond.methodLink RX1 28 yX1_holds, Cond.static yX1_holds, Cond.code yX1_holds cX1_holds 2 (some .boolean), Cond.methodLink RX4 215 yX4_squareBetween]
def wsX4_areLinked_r2 : List Cond := [Cond.instanceMethod yX4_squareBetween, Cond.selects RX4 yX4_squareBetween yX4_squareBetween, Cond.code yX4_squareBetween cX4_squareBetween 5 (some .int), Cond.fieldLink RX4 9 "Formationist" "xs" "[I", Cond.fieldLink RX4 13 "Formationist" "ys" "[I"]
def wsX4_areLinked : List Cond := .code yX4_areLinked cX4_areLinked 3 (some .boolean) :: ((wsX4_areLinked_r1 ++ wsX4_areLinked_r2) ++ wsX40 ++ wsX10 ++ (vx_atS RX4 205 "java/lang/IndexOutOfBoundsException" ["java/lang/RuntimeException", "java/lang/Exception"]).filter goodWord)
def wsX4_drawNet_r1 : List Cond := [Cond.fieldLink RX4 54 "Formationist" "net" "LFormationist$Net;", Cond.fieldLink RX4 47 "Formationist" "count" "I", Cond.instanceMethod yX1_clear, Cond.initialized RX1, Cond.selects RX1 yX1_clear yX1_clear, Cond.code yX1_clear cX1_clear 1 none, Cond.fieldLink RX1 9 "Formationist$Net" "others" "[I", Cond.methodLink RX1 15 yJ7_fill_53178, Cond.static yJ7_fill_53178, Cond.initialized RJ7, Cond.code yJ7_fill_53178 cJ7_fill_53178 4 none, Cond.methodLink RX4 122 yX4_hears, Cond.instanceMethod yX4_hears, Cond.selects RX4 yX4_hears yX4_hears, Cond.initialized RX4, Cond.code yX4_hears cX4_hears 3 (some .boolean), Cond.fieldLink RX4 16 "Formationist" "ups" "[Z", Cond.fieldLink RX4 43 "Formationist" "blocked" "LFormationist$Net;", Cond.fieldLink RX4 51 "Formationist" "range" "I", Cond.instanceMethod yX1_joins, Cond.selects RX1 yX1_joins yX1_joins, Cond.code yX1_joins cX1_joins 3 (some .boolean), Cond.methodLink RX1 28 yX1_holds, Cond.static yX1_holds]
def wsX4_drawNet_r2 : List Cond := [Cond.code yX1_holds cX1_holds 2 (some .boolean), Cond.methodLink RX4 215 yX4_squareBetween, Cond.instanceMethod yX4_squareBetween, Cond.selects RX4 yX4_squareBetween yX4_squareBetween, Cond.code yX4_squareBetween cX4_squareBetween 5 (some .int), Cond.fieldLink RX4 9 "Formationist" "xs" "[I", Cond.fieldLink RX4 13 "Formationist" "ys" "[I", Cond.instanceMethod yX1_join, Cond.selects RX1 yX1_join yX1_join, Cond.code yX1_join cX1_join 3 none, Cond.methodLink RX1 21 yX1_with, Cond.static yX1_with, Cond.code yX1_with cX1_with 2 (some .int)]
def wsX4_drawNet : List Cond := .code yX4_drawNet cX4_drawNet 3 none :: ((wsX4_drawNet_r1 ++ wsX4_drawNet_r2) ++ wsX40 ++ wsX10)
def wsX4_links_r1 : List Cond := [Cond.fieldLink RX4 54 "Formationist" "net" "LFormationist$Net;", Cond.methodLink RX4 125 yX4_drawNet, Cond.instanceMethod yX4_drawNet, Cond.selects RX4 yX4_drawNet yX4_drawNet, Cond.initialized RX4, Cond.code yX4_drawNet cX4_drawNet 3 none, Cond.fieldLink RX4 47 "Formationist" "count" "I", Cond.instanceMethod yX1_clear, Cond.initialized RX1, Cond.selects RX1 yX1_clear yX1_clear, Cond.code yX1_clear cX1_clear 1 none, Cond.fieldLink RX1 9 "Formationist$Net" "others" "[I", Cond.methodLink RX1 15 yJ7_fill_53178, Cond.static yJ7_fill_53178, Cond.initialized RJ7, Cond.code yJ7_fill_53178 cJ7_fill_53178 4 none, Cond.methodLink RX4 122 yX4_hears, Cond.instanceMethod yX4_hears, Cond.selects RX4 yX4_hears yX4_hears, Cond.code yX4_hears cX4_hears 3 (some .boolean), Cond.fieldLink RX4 16 "Formationist" "ups" "[Z", Cond.fieldLink RX4 43 "Formationist" "blocked" "LFormationist$Net;", Cond.fieldLink RX4 51 "Formationist" "range" "I", Cond.instanceMethod yX1_joins]
def wsX4_links_r2 : List Cond := [Cond.selects RX1 yX1_joins yX1_joins, Cond.code yX1_joins cX1_joins 3 (some .boolean), Cond.methodLink RX1 28 yX1_holds, Cond.static yX1_holds, Cond.code yX1_holds cX1_holds 2 (some .boolean), Cond.methodLink RX4 215 yX4_squareBetween, Cond.instanceMethod yX4_squareBetween, Cond.selects RX4 yX4_squareBetween yX4_squareBetween, Cond.code yX4_squareBetween cX4_squareBetween 5 (some .int), Cond.fieldLink RX4 9 "Formationist" "xs" "[I", Cond.fieldLink RX4 13 "Formationist" "ys" "[I", Cond.instanceMethod yX1_join, Cond.selects RX1 yX1_join yX1_join, Cond.code yX1_join cX1_join 3 none, Cond.methodLink RX1 21 yX1_with, Cond.static yX1_with, Cond.code yX1_with cX1_with 2 (some .int), Cond.instanceMethod yX1_pairCount, Cond.selects RX1 yX1_pairCount yX1_pairCount, Cond.code yX1_pairCount cX1_pairCount 3 (some .int), Cond.methodLink RX1 38 yX1_degreeOf, Cond.instanceMethod yX1_degreeOf, Cond.selects RX1 yX1_degreeOf yX1_degreeOf, Cond.code yX1_degreeOf cX1_degreeOf 2 (some .int)]
def wsX4_links_r3 : List Cond := [Cond.methodLink RX1 32 yJ6_bitCount_0f7a4, Cond.static yJ6_bitCount_0f7a4, Cond.initialized RJ6, Cond.code yJ6_bitCount_0f7a4 cJ6_bitCount_0f7a4 1 (some .int), Cond.constant RJ6 265 (1431655765), Cond.constant RJ6 266 (858993459), Cond.constant RJ6 267 (252645135)]
def wsX4_links : List Cond := .code yX4_links cX4_links 1 (some .int) :: ((wsX4_links_r1 ++ (wsX4_links_r2 ++ wsX4_links_r3)) ++ wsX40 ++ wsX10)
def wsX4_degree_r1 : List Cond := [Cond.fieldLink RX4 54 "Formationist" "net" "LFormationist$Net;", Cond.methodLink RX4 101 yX4_requireMember, Cond.instanceMethod yX4_requireMember, Cond.selects RX4 yX4_requireMember yX4_requireMember, Cond.initialized RX4, Cond.code yX4_requireMember cX4_requireMember 2 none, Cond.classLink RX4 201 "java/lang/IndexOutOfBoundsException", Cond.initialized "java/lang/IndexOutOfBoundsException", Cond.fieldLink RX4 47 "Formationist" "count" "I", Cond.methodLink RX4 125 yX4_drawNet, Cond.instanceMethod yX4_drawNet, Cond.selects RX4 yX4_drawNet yX4_drawNet, Cond.code yX4_drawNet cX4_drawNet 3 none, Cond.instanceMethod yX1_clear, Cond.initialized RX1, Cond.selects RX1 yX1_clear yX1_clear, Cond.code yX1_clear cX1_clear 1 none, Cond.fieldLink RX1 9 "Formationist$Net" "others" "[I", Cond.methodLink RX1 15 yJ7_fill_53178, Cond.static yJ7_fill_53178, Cond.initialized RJ7, Cond.code yJ7_fill_53178 cJ7_fill_53178 4 none, Cond.methodLink RX4 122 yX4_hears, Cond.instanceMethod yX4_hears]
def wsX4_degree_r2 : List Cond := [Cond.selects RX4 yX4_hears yX4_hears, Cond.code yX4_hears cX4_hears 3 (some .boolean), Cond.fieldLink RX4 16 "Formationist" "ups" "[Z", Cond.fieldLink RX4 43 "Formationist" "blocked" "LFormationist$Net;", Cond.fieldLink RX4 51 "Formationist" "range" "I", Cond.instanceMethod yX1_joins, Cond.selects RX1 yX1_joins yX1_joins, Cond.code yX1_joins cX1_joins 3 (some .boolean), Cond.methodLink RX1 28 yX1_holds, Cond.static yX1_holds, Cond.code yX1_holds cX1_holds 2 (some .boolean), Cond.methodLink RX4 215 yX4_squareBetween, Cond.instanceMethod yX4_squareBetween, Cond.selects RX4 yX4_squareBetween yX4_squareBetween, Cond.code yX4_squareBetween cX4_squareBetween 5 (some .int), Cond.fieldLink RX4 9 "Formationist" "xs" "[I", Cond.fieldLink RX4 13 "Formationist" "ys" "[I", Cond.instanceMethod yX1_join, Cond.selects RX1 yX1_join yX1_join, Cond.code yX1_join cX1_join 3 none, Cond.methodLink RX1 21 yX1_with, Cond.static yX1_with, Cond.code yX1_with cX1_with 2 (some .int), Cond.instanceMethod yX1_degreeOf]
def wsX4_degree_r3 : List Cond := [Cond.selects RX1 yX1_degreeOf yX1_degreeOf, Cond.code yX1_degreeOf cX1_degreeOf 2 (some .int), Cond.methodLink RX1 32 yJ6_bitCount_0f7a4, Cond.static yJ6_bitCount_0f7a4, Cond.initialized RJ6, Cond.code yJ6_bitCount_0f7a4 cJ6_bitCount_0f7a4 1 (some .int), Cond.constant RJ6 265 (1431655765), Cond.constant RJ6 266 (858993459), Cond.constant RJ6 267 (252645135)]
def wsX4_degree : List Cond := .code yX4_degree cX4_degree 2 (some .int) :: ((wsX4_degree_r1 ++ (wsX4_degree_r2 ++ wsX4_degree_r3)) ++ wsX40 ++ wsX10 ++ (vx_atS RX4 205 "java/lang/IndexOutOfBoundsException" ["java/lang/RuntimeException", "java/lang/Exception"]).filter goodWord)
def wsX4_countGroups : List Cond := .code yX4_countGroups cX4_countGroups 4 (some .int) :: ([.fieldLink RX4 47 "Formationist" "count" "I", .fieldLink RX4 16 "Formationist" "ups" "[Z", .fieldLink RX4 54 "Formationist" "net" "LFormationist$Net;", .static yX1_holds, .initialized RX1, .code yX1_holds cX1_holds 2 (some .boolean), .instanceMethod yX1_groupOf, .selects RX1 yX1_groupOf yX1_groupOf, .code yX1_groupOf cX1_groupOf 6 (some .int), .fieldLink RX1 9 "Formationist$Net" "others" "[I", .methodLink RX1 21 yX1_with, .static yX1_with, .code yX1_with cX1_with 2 (some .int), .methodLink RX1 28 yX1_holds] ++ wsX40 ++ wsX10)
def wsX4_groups_r1 : List Cond := [Cond.methodLink RX4 125 yX4_drawNet, Cond.instanceMethod yX4_drawNet, Cond.selects RX4 yX4_drawNet yX4_drawNet, Cond.initialized RX4, Cond.code yX4_drawNet cX4_drawNet 3 none, Cond.fieldLink RX4 54 "Formationist" "net" "LFormationist$Net;", Cond.fieldLink RX4 47 "Formationist" "count" "I", Cond.instanceMethod yX1_clear, Cond.initialized RX1, Cond.selects RX1 yX1_clear yX1_clear, Cond.code yX1_clear cX1_clear 1 none, Cond.fieldLink RX1 9 "Formationist$Net" "others" "[I", Cond.methodLink RX1 15 yJ7_fill_53178, Cond.static yJ7_fill_53178, Cond.initialized RJ7, Cond.code yJ7_fill_53178 cJ7_fill_53178 4 none, Cond.methodLink RX4 122 yX4_hears, Cond.instanceMethod yX4_hears, Cond.selects RX4 yX4_hears yX4_hears, Cond.code yX4_hears cX4_hears 3 (some .boolean), Cond.fieldLink RX4 16 "Formationist" "ups" "[Z", Cond.fieldLink RX4 43 "Formationist" "blocked" "LFormationist$Net;", Cond.fieldLink RX4 51 "Formationist" "range" "I", Cond.instanceMethod yX1_joins]
def wsX4_groups_r2 : List Cond := [Cond.selects RX1 yX1_joins yX1_joins, Cond.code yX1_joins cX1_joins 3 (some .boolean), Cond.methodLink RX1 28 yX1_holds, Cond.static yX1_holds, Cond.code yX1_holds cX1_holds 2 (some .boolean), Cond.methodLink RX4 215 yX4_squareBetween, Cond.instanceMethod yX4_squareBetween, Cond.selects RX4 yX4_squareBetween yX4_squareBetween, Cond.code yX4_squareBetween cX4_squareBetween 5 (some .int), Cond.fieldLink RX4 9 "Formationist" "xs" "[I", Cond.fieldLink RX4 13 "Formationist" "ys" "[I", Cond.instanceMethod yX1_join, Cond.selects RX1 yX1_join yX1_join, Cond.code yX1_join cX1_join 3 none, Cond.methodLink RX1 21 yX1_with, Cond.static yX1_with, Cond.code yX1_with cX1_with 2 (some .int), Cond.methodLink RX4 136 yX4_countGroups, Cond.instanceMethod yX4_countGroups, Cond.selects RX4 yX4_countGroups yX4_countGroups, Cond.code yX4_countGroups cX4_countGroups 4 (some .int), Cond.instanceMethod yX1_groupOf, Cond.selects RX1 yX1_groupOf yX1_groupOf, Cond.code yX1_groupOf cX1_groupOf 6 (some .int)]
def wsX4_groups : List Cond := .code yX4_groups cX4_groups 1 (some .int) :: ((wsX4_groups_r1 ++ wsX4_groups_r2) ++ wsX40 ++ wsX10)
def wsX4_outranks : List Cond := .code yX4_outranks cX4_outranks 3 (some .boolean) :: ([.fieldLink RX4 20 "Formationist" "priorities" "[I"] ++ wsX40)
def wsX4_leader_r1 : List Cond := [Cond.fieldLink RX4 16 "Formationist" "ups" "[Z", Cond.fieldLink RX4 54 "Formationist" "net" "LFormationist$Net;", Cond.fieldLink RX4 47 "Formationist" "count" "I", Cond.methodLink RX4 101 yX4_requireMember, Cond.instanceMethod yX4_requireMember, Cond.selects RX4 yX4_requireMember yX4_requireMember, Cond.initialized RX4, Cond.code yX4_requireMember cX4_requireMember 2 none, Cond.classLink RX4 201 "java/lang/IndexOutOfBoundsException", Cond.initialized "java/lang/IndexOutOfBoundsException", Cond.methodLink RX4 125 yX4_drawNet, Cond.instanceMethod yX4_drawNet, Cond.selects RX4 yX4_drawNet yX4_drawNet, Cond.code yX4_drawNet cX4_drawNet 3 none, Cond.instanceMethod yX1_clear, Cond.initialized RX1, Cond.selects RX1 yX1_clear yX1_clear, Cond.code yX1_clear cX1_clear 1 none, Cond.fieldLink RX1 9 "Formationist$Net" "others" "[I", Cond.methodLink RX1 15 yJ7_fill_53178, Cond.static yJ7_fill_53178, Cond.initialized RJ7, Cond.code yJ7_fill_53178 cJ7_fill_53178 4 none, Cond.methodLink RX4 122 yX4_hears]
def wsX4_leader_r2 : List Cond := [Cond.instanceMethod yX4_hears, Cond.selects RX4 yX4_hears yX4_hears, Cond.code yX4_hears cX4_hears 3 (some .boolean), Cond.fieldLink RX4 43 "Formationist" "blocked" "LFormationist$Net;", Cond.fieldLink RX4 51 "Formationist" "range" "I", Cond.instanceMethod yX1_joins, Cond.selects RX1 yX1_joins yX1_joins, Cond.code yX1_joins cX1_joins 3 (some .boolean), Cond.methodLink RX1 28 yX1_holds, Cond.static yX1_holds, Cond.code yX1_holds cX1_holds 2 (some .boolean), Cond.methodLink RX4 215 yX4_squareBetween, Cond.instanceMethod yX4_squareBetween, Cond.selects RX4 yX4_squareBetween yX4_squareBetween, Cond.code yX4_squareBetween cX4_squareBetween 5 (some .int), Cond.fieldLink RX4 9 "Formationist" "xs" "[I", Cond.fieldLink RX4 13 "Formationist" "ys" "[I", Cond.instanceMethod yX1_join, Cond.selects RX1 yX1_join yX1_join, Cond.code yX1_join cX1_join 3 none, Cond.methodLink RX1 21 yX1_with, Cond.static yX1_with, Cond.code yX1_with cX1_with 2 (some .int), Cond.instanceMethod yX1_groupOf]
def wsX4_leader_r3 : List Cond := [Cond.selects RX1 yX1_groupOf yX1_groupOf, Cond.code yX1_groupOf cX1_groupOf 6 (some .int), Cond.methodLink RX4 145 yX4_outranks, Cond.instanceMethod yX4_outranks, Cond.selects RX4 yX4_outranks yX4_outranks, Cond.code yX4_outranks cX4_outranks 3 (some .boolean), Cond.fieldLink RX4 20 "Formationist" "priorities" "[I"]
def wsX4_leader : List Cond := .code yX4_leader cX4_leader 5 (some .int) :: ((wsX4_leader_r1 ++ (wsX4_leader_r2 ++ wsX4_leader_r3)) ++ wsX40 ++ wsX10 ++ (vx_atS RX4 205 "java/lang/IndexOutOfBoundsException" ["java/lang/RuntimeException", "java/lang/Exception"]).filter goodWord)
def wsX4_upSet : List Cond := .code yX4_upSet cX4_upSet 3 (some .int) :: ([.fieldLink RX4 47 "Formationist" "count" "I", .fieldLink RX4 16 "Formationist" "ups" "[Z", .static yX1_with, .initialized RX1, .code yX1_with cX1_with 2 (some .int)] ++ wsX40)
def wsX4_trees_r1 : List Cond := [Cond.fieldLink RX4 80 "Formationist" "treeMatrix" "LFormationist$TreeMatrix;", Cond.fieldLink RX4 54 "Formationist" "net" "LFormationist$Net;", Cond.methodLink RX4 125 yX4_drawNet, Cond.instanceMethod yX4_drawNet, Cond.selects RX4 yX4_drawNet yX4_drawNet, Cond.initialized RX4, Cond.code yX4_drawNet cX4_drawNet 3 none, Cond.fieldLink RX4 47 "Formationist" "count" "I", Cond.instanceMethod yX1_clear, Cond.initialized RX1, Cond.selects RX1 yX1_clear yX1_clear, Cond.code yX1_clear cX1_clear 1 none, Cond.fieldLink RX1 9 "Formationist$Net" "others" "[I", Cond.methodLink RX1 15 yJ7_fill_53178, Cond.static yJ7_fill_53178, Cond.initialized RJ7, Cond.code yJ7_fill_53178 cJ7_fill_53178 4 none, Cond.methodLink RX4 122 yX4_hears, Cond.instanceMethod yX4_hears, Cond.selects RX4 yX4_hears yX4_hears, Cond.code yX4_hears cX4_hears 3 (some .boolean), Cond.fieldLink RX4 16 "Formationist" "ups" "[Z", Cond.fieldLink RX4 43 "Formationist" "blocked" "LFormationist$Net;", Cond.fieldLink RX4 51 "Formationist" "range" "I"]
def wsX4_trees_r2 : List Cond := [Cond.instanceMethod yX1_joins, Cond.selects RX1 yX1_joins yX1_joins, Cond.code yX1_joins cX1_joins 3 (some .boolean), Cond.methodLink RX1 28 yX1_holds, Cond.static yX1_holds, Cond.code yX1_holds cX1_holds 2 (some .boolean), Cond.methodLink RX4 215 yX4_squareBetween, Cond.instanceMethod yX4_squareBetween, Cond.selects RX4 yX4_squareBetween yX4_squareBetween, Cond.code yX4_squareBetween cX4_squareBetween 5 (some .int), Cond.fieldLink RX4 9 "Formationist" "xs" "[I", Cond.fieldLink RX4 13 "Formationist" "ys" "[I", Cond.instanceMethod yX1_join, Cond.selects RX1 yX1_join yX1_join, Cond.code yX1_join cX1_join 3 none, Cond.methodLink RX1 21 yX1_with, Cond.static yX1_with, Cond.code yX1_with cX1_with 2 (some .int), Cond.methodLink RX4 148 yX4_upSet, Cond.instanceMethod yX4_upSet, Cond.selects RX4 yX4_upSet yX4_upSet, Cond.code yX4_upSet cX4_upSet 3 (some .int), Cond.instanceMethod yX3_treesOf, Cond.initialized RX3]
def wsX4_trees_r3 : List Cond := [Cond.selects RX3 yX3_treesOf yX3_treesOf, Cond.code yX3_treesOf cX3_treesOf 4 (some .long), Cond.methodLink RX3 16 yJ6_numberOfTrailingZeros_0f7a4, Cond.static yJ6_numberOfTrailingZeros_0f7a4, Cond.initialized RJ6, Cond.code yJ6_numberOfTrailingZeros_0f7a4 cJ6_numberOfTrailingZeros_0f7a4 2 (some .int), Cond.constant RJ6 264 (65536), Cond.static yX1_without, Cond.code yX1_without cX1_without 2 (some .int), Cond.methodLink RX3 28 yX3_fill, Cond.instanceMethod yX3_fill, Cond.selects RX3 yX3_fill yX3_fill, Cond.code yX3_fill cX3_fill 5 (some .int), Cond.fieldLink RX3 11 "Formationist$TreeMatrix" "rows" "[[J", Cond.methodLink RX3 40 yX3_fillRow, Cond.static yX3_fillRow, Cond.code yX3_fillRow cX3_fillRow 6 none, Cond.constantLong RX3 47 (-1), Cond.instanceMethod yX1_degreeOf, Cond.selects RX1 yX1_degreeOf yX1_degreeOf, Cond.code yX1_degreeOf cX1_degreeOf 2 (some .int), Cond.methodLink RX1 32 yJ6_bitCount_0f7a4, Cond.static yJ6_bitCount_0f7a4, Cond.code yJ6_bitCount_0f7a4 cJ6_bitCount_0f7a4 1 (some .int)]
def wsX4_trees_r4 : List Cond := [Cond.constant RJ6 265 (1431655765), Cond.constant RJ6 266 (858993459), Cond.constant RJ6 267 (252645135), Cond.methodLink RX3 32 yX3_determinant, Cond.instanceMethod yX3_determinant, Cond.selects RX3 yX3_determinant yX3_determinant, Cond.code yX3_determinant cX3_determinant 11 (some .long)]
def wsX4_trees : List Cond := .code yX4_trees cX4_trees 1 (some .long) :: ((wsX4_trees_r1 ++ (wsX4_trees_r2 ++ (wsX4_trees_r3 ++ wsX4_trees_r4))) ++ wsX40 ++ wsX10 ++ wsX30)
def wsX4_requireValue : List Cond := .code yX4_requireValue cX4_requireValue 1 none :: ([.constant RX4 213 (-1000000), .constant RX4 214 (1000000), .methodLink RX4 105 yX4_requireWithin, .static yX4_requireWithin, .initialized RX4, .code yX4_requireWithin cX4_requireWithin 3 none, .classLink RX4 206 "java/lang/IllegalArgumentException", .initialized "java/lang/IllegalArgumentException"] ++ (vx_atS RX4 210 "java/lang/IllegalArgumentException" ["java/lang/RuntimeException", "java/lang/Exception"]).filter goodWord)
def wsX4_setEstimate : List Cond := .code yX4_setEstimate cX4_setEstimate 4 (some .int) :: ([.fieldLink RX4 23 "Formationist" "estimates" "[I", .methodLink RX4 101 yX4_requireMember, .instanceMethod yX4_requireMember, .selects RX4 yX4_requireMember yX4_requireMember, .initialized RX4, .code yX4_requireMember cX4_requireMember 2 none, .classLink RX4 201 "java/lang/IndexOutOfBoundsException", .initialized "java/lang/IndexOutOfBoundsException", .fieldLink RX4 47 "Formationist" "count" "I", .methodLink RX4 155 yX4_requireValue, .static yX4_requireValue, .code yX4_requireValue cX4_requireValue 1 none, .constant RX4 213 (-1000000), .constant RX4 214 (1000000), .methodLink RX4 105 yX4_requireWithin, .static yX4_requireWithin, .code yX4_requireWithin cX4_requireWithin 3 none, .classLink RX4 206 "java/lang/IllegalArgumentException", .initialized "java/lang/IllegalArgumentException"] ++ wsX40 ++ (vx_atS RX4 205 "java/lang/IndexOutOfBoundsException" ["java/lang/RuntimeException", "java/lang/Exception"]).filter goodWord ++ (vx_atS RX4 210 "java/lang/IllegalArgumentException" ["java/lang/RuntimeException", "java/lang/Exception"]).filter goodWord)
def wsX4_estimate : List Cond := .code yX4_estimate cX4_estimate 2 (some .int) :: ([.fieldLink RX4 23 "Formationist" "estimates" "[I", .methodLink RX4 101 yX4_requireMember, .instanceMethod yX4_requireMember, .selects RX4 yX4_requireMember yX4_requireMember, .initialized RX4, .code yX4_requireMember cX4_requireMember 2 none, .classLink RX4 201 "java/lang/IndexOutOfBoundsException", .initialized "java/lang/IndexOutOfBoundsException", .fieldLink RX4 47 "Formationist" "count" "I"] ++ wsX40 ++ (vx_atS RX4 205 "java/lang/IndexOutOfBoundsException" ["java/lang/RuntimeException", "java/lang/Exception"]).filter goodWord)
def wsX4_requireRounds : List Cond := .code yX4_requireRounds cX4_requireRounds 1 none :: ([.methodLink RX4 105 yX4_requireWithin, .static yX4_requireWithin, .initialized RX4, .code yX4_requireWithin cX4_requireWithin 3 none, .classLink RX4 206 "java/lang/IllegalArgumentException", .initialized "java/lang/IllegalArgumentException"] ++ (vx_atS RX4 210 "java/lang/IllegalArgumentException" ["java/lang/RuntimeException", "java/lang/Exception"]).filter goodWord)
def wsX4_flowBetween : List Cond := .code yX4_flowBetween cX4_flowBetween 4 (some .int) :: ([.fieldLink RX4 54 "Formationist" "net" "LFormationist$Net;", .methodLink RX4 231 Lib.Math.max.name, .static Lib.Math.max.name, .initialized "java/lang/Math", .code Lib.Math.max.name Lib.Math.max.code 2 (some .int), .fieldLink RX4 23 "Formationist" "estimates" "[I", .instanceMethod yX1_degreeOf, .initialized RX1, .selects RX1 yX1_degreeOf yX1_degreeOf, .code yX1_degreeOf cX1_degreeOf 2 (some .int), .fieldLink RX1 9 "Formationist$Net" "others" "[I", .methodLink RX1 32 yJ6_bitCount_0f7a4, .static yJ6_bitCount_0f7a4, .initialized RJ6, .code yJ6_bitCount_0f7a4 cJ6_bitCount_0f7a4 1 (some .int), .constant RJ6 265 (1431655765), .constant RJ6 266 (858993459), .constant RJ6 267 (252645135)] ++ wsX40 ++ wsX10)
def wsX4_addChanges : List Cond := .code yX4_addChanges cX4_addChanges 4 none :: ([.fieldLink RX4 47 "Formationist" "count" "I"] ++ wsX40)
def wsX4_exchangeEstimates_r1 : List Cond := [Cond.fieldLink RX4 57 "Formationist" "changes" "[I", Cond.fieldLink RX4 47 "Formationist" "count" "I", Cond.fieldLink RX4 54 "Formationist" "net" "LFormationist$Net;", Cond.fieldLink RX4 23 "Formationist" "estimates" "[I", Cond.methodLink RX4 84 yJ7_fill_53178, Cond.static yJ7_fill_53178, Cond.initialized RJ7, Cond.code yJ7_fill_53178 cJ7_fill_53178 4 none, Cond.instanceMethod yX1_joins, Cond.initialized RX1, Cond.selects RX1 yX1_joins yX1_joins, Cond.code yX1_joins cX1_joins 3 (some .boolean), Cond.fieldLink RX1 9 "Formationist$Net" "others" "[I", Cond.methodLink RX1 28 yX1_holds, Cond.static yX1_holds, Cond.code yX1_holds cX1_holds 2 (some .boolean), Cond.methodLink RX4 224 yX4_flowBetween, Cond.instanceMethod yX4_flowBetween, Cond.selects RX4 yX4_flowBetween yX4_flowBetween, Cond.initialized RX4, Cond.code yX4_flowBetween cX4_flowBetween 4 (some .int), Cond.methodLink RX4 231 Lib.Math.max.name, Cond.static Lib.Math.max.name, Cond.initialized "java/lang/Math"]
def wsX4_exchangeEstimates_r2 : List Cond := [Cond.code Lib.Math.max.name Lib.Math.max.code 2 (some .int), Cond.instanceMethod yX1_degreeOf, Cond.selects RX1 yX1_degreeOf yX1_degreeOf, Cond.code yX1_degreeOf cX1_degreeOf 2 (some .int), Cond.methodLink RX1 32 yJ6_bitCount_0f7a4, Cond.static yJ6_bitCount_0f7a4, Cond.initialized RJ6, Cond.code yJ6_bitCount_0f7a4 cJ6_bitCount_0f7a4 1 (some .int), Cond.constant RJ6 265 (1431655765), Cond.constant RJ6 266 (858993459), Cond.constant RJ6 267 (252645135), Cond.methodLink RX4 227 yX4_addChanges, Cond.instanceMethod yX4_addChanges, Cond.selects RX4 yX4_addChanges yX4_addChanges, Cond.code yX4_addChanges cX4_addChanges 4 none]
def wsX4_exchangeEstimates : List Cond := .code yX4_exchangeEstimates cX4_exchangeEstimates 4 none :: ((wsX4_exchangeEstimates_r1 ++ wsX4_exchangeEstimates_r2) ++ wsX40 ++ wsX10)
def wsX4_spanOfEstimates : List Cond := .code yX4_spanOfEstimates cX4_spanOfEstimates 4 (some .int) :: ([.fieldLink RX4 47 "Formationist" "count" "I", .fieldLink RX4 23 "Formationist" "estimates" "[I", .methodLink RX4 234 Lib.Math.min.name, .static Lib.Math.min.name, .initialized "java/lang/Math", .code Lib.Math.min.name Lib.Math.min.code 2 (some .int), .methodLink RX4 231 Lib.Math.max.name, .static Lib.Math.max.name, .code Lib.Math.max.name Lib.Math.max.code 2 (some .int)] ++ wsX40)
def wsX4_agree_r1 : List Cond := [Cond.methodLink RX4 158 yX4_requireRounds, Cond.static yX4_requireRounds, Cond.initialized RX4, Cond.code yX4_requireRounds cX4_requireRounds 1 none, Cond.methodLink RX4 105 yX4_requireWithin, Cond.static yX4_requireWithin, Cond.code yX4_requireWithin cX4_requireWithin 3 none, Cond.classLink RX4 206 "java/lang/IllegalArgumentException", Cond.initialized "java/lang/IllegalArgumentException", Cond.methodLink RX4 125 yX4_drawNet, Cond.instanceMethod yX4_drawNet, Cond.selects RX4 yX4_drawNet yX4_drawNet, Cond.code yX4_drawNet cX4_drawNet 3 none, Cond.fieldLink RX4 54 "Formationist" "net" "LFormationist$Net;", Cond.fieldLink RX4 47 "Formationist" "count" "I", Cond.instanceMethod yX1_clear, Cond.initialized RX1, Cond.selects RX1 yX1_clear yX1_clear, Cond.code yX1_clear cX1_clear 1 none, Cond.fieldLink RX1 9 "Formationist$Net" "others" "[I", Cond.methodLink RX1 15 yJ7_fill_53178, Cond.static yJ7_fill_53178, Cond.initialized RJ7, Cond.code yJ7_fill_53178 cJ7_fill_53178 4 none]
def wsX4_agree_r2 : List Cond := [Cond.methodLink RX4 122 yX4_hears, Cond.instanceMethod yX4_hears, Cond.selects RX4 yX4_hears yX4_hears, Cond.code yX4_hears cX4_hears 3 (some .boolean), Cond.fieldLink RX4 16 "Formationist" "ups" "[Z", Cond.fieldLink RX4 43 "Formationist" "blocked" "LFormationist$Net;", Cond.fieldLink RX4 51 "Formationist" "range" "I", Cond.instanceMethod yX1_joins, Cond.selects RX1 yX1_joins yX1_joins, Cond.code yX1_joins cX1_joins 3 (some .boolean), Cond.methodLink RX1 28 yX1_holds, Cond.static yX1_holds, Cond.code yX1_holds cX1_holds 2 (some .boolean), Cond.methodLink RX4 215 yX4_squareBetween, Cond.instanceMethod yX4_squareBetween, Cond.selects RX4 yX4_squareBetween yX4_squareBetween, Cond.code yX4_squareBetween cX4_squareBetween 5 (some .int), Cond.fieldLink RX4 9 "Formationist" "xs" "[I", Cond.fieldLink RX4 13 "Formationist" "ys" "[I", Cond.instanceMethod yX1_join, Cond.selects RX1 yX1_join yX1_join, Cond.code yX1_join cX1_join 3 none, Cond.methodLink RX1 21 yX1_with, Cond.static yX1_with]
def wsX4_agree_r3 : List Cond := [Cond.code yX1_with cX1_with 2 (some .int), Cond.methodLink RX4 161 yX4_exchangeEstimates, Cond.instanceMethod yX4_exchangeEstimates, Cond.selects RX4 yX4_exchangeEstimates yX4_exchangeEstimates, Cond.code yX4_exchangeEstimates cX4_exchangeEstimates 4 none, Cond.fieldLink RX4 57 "Formationist" "changes" "[I", Cond.fieldLink RX4 23 "Formationist" "estimates" "[I", Cond.methodLink RX4 84 yJ7_fill_53178, Cond.methodLink RX4 224 yX4_flowBetween, Cond.instanceMethod yX4_flowBetween, Cond.selects RX4 yX4_flowBetween yX4_flowBetween, Cond.code yX4_flowBetween cX4_flowBetween 4 (some .int), Cond.methodLink RX4 231 Lib.Math.max.name, Cond.static Lib.Math.max.name, Cond.initialized "java/lang/Math", Cond.code Lib.Math.max.name Lib.Math.max.code 2 (some .int), Cond.instanceMethod yX1_degreeOf, Cond.selects RX1 yX1_degreeOf yX1_degreeOf, Cond.code yX1_degreeOf cX1_degreeOf 2 (some .int), Cond.methodLink RX1 32 yJ6_bitCount_0f7a4, Cond.static yJ6_bitCount_0f7a4, Cond.initialized RJ6, Cond.code yJ6_bitCount_0f7a4 cJ6_bitCount_0f7a4 1 (some .int), Cond.constant RJ6 265 (1431655765)]
def wsX4_agree_r4 : List Cond := [Cond.constant RJ6 266 (858993459), Cond.constant RJ6 267 (252645135), Cond.methodLink RX4 227 yX4_addChanges, Cond.instanceMethod yX4_addChanges, Cond.selects RX4 yX4_addChanges yX4_addChanges, Cond.code yX4_addChanges cX4_addChanges 4 none, Cond.methodLink RX4 164 yX4_spanOfEstimates, Cond.instanceMethod yX4_spanOfEstimates, Cond.selects RX4 yX4_spanOfEstimates yX4_spanOfEstimates, Cond.code yX4_spanOfEstimates cX4_spanOfEstimates 4 (some .int), Cond.methodLink RX4 234 Lib.Math.min.name, Cond.static Lib.Math.min.name, Cond.code Lib.Math.min.name Lib.Math.min.code 2 (some .int)]
def wsX4_agree : List Cond := .code yX4_agree cX4_agree 3 (some .int) :: ((wsX4_agree_r1 ++ (wsX4_agree_r2 ++ (wsX4_agree_r3 ++ wsX4_agree_r4))) ++ wsX40 ++ wsX10 ++ (vx_atS RX4 210 "java/lang/IllegalArgumentException" ["java/lang/RuntimeException", "java/lang/Exception"]).filter goodWord)
def wsX4_setSum : List Cond := .code yX4_setSum cX4_setSum 4 (some .int) :: ([.fieldLink RX4 26 "Formationist" "sums" "[I", .methodLink RX4 101 yX4_requireMember, .instanceMethod yX4_requireMember, .selects RX4 yX4_requireMember yX4_requireMember, .initialized RX4, .code yX4_requireMember cX4_requireMember 2 none, .classLink RX4 201 "java/lang/IndexOutOfBoundsException", .initialized "java/lang/IndexOutOfBoundsException", .fieldLink RX4 47 "Formationist" "count" "I", .methodLink RX4 155 yX4_requireValue, .static yX4_requireValue, .code yX4_requireValue cX4_requireValue 1 none, .constant RX4 213 (-1000000), .constant RX4 214 (1000000), .methodLink RX4 105 yX4_requireWithin, .static yX4_requireWithin, .code yX4_requireWithin cX4_requireWithin 3 none, .classLink RX4 206 "java/lang/IllegalArgumentException", .initialized "java/lang/IllegalArgumentException"] ++ wsX40 ++ (vx_atS RX4 205 "java/lang/IndexOutOfBoundsException" ["java/lang/RuntimeException", "java/lang/Exception"]).filter goodWord ++ (vx_atS RX4 210 "java/lang/IllegalArgumentException" ["java/lang/RuntimeException", "java/lang/Exception"]).filter goodWord)
def wsX4_sum : List Cond := .code yX4_sum cX4_sum 2 (some .int) :: ([.fieldLink RX4 26 "Formationist" "sums" "[I", .methodLink RX4 101 yX4_requireMember, .instanceMethod yX4_requireMember, .selects RX4 yX4_requireMember yX4_requireMember, .initialized RX4, .code yX4_requireMember cX4_requireMember 2 none, .classLink RX4 201 "java/lang/IndexOutOfBoundsException", .initialized "java/lang/IndexOutOfBoundsException", .fieldLink RX4 47 "Formationist" "count" "I"] ++ wsX40 ++ (vx_atS RX4 205 "java/lang/IndexOutOfBoundsException" ["java/lang/RuntimeException", "java/lang/Exception"]).filter goodWord)
def wsX4_weight : List Cond := .code yX4_weight cX4_weight 2 (some .int) :: ([.fieldLink RX4 29 "Formationist" "weights" "[I", .methodLink RX4 101 yX4_requireMember, .instanceMethod yX4_requireMember, .selects RX4 yX4_requireMember yX4_requireMember, .initialized RX4, .code yX4_requireMember cX4_requireMember 2 none, .classLink RX4 201 "java/lang/IndexOutOfBoundsException", .initialized "java/lang/IndexOutOfBoundsException", .fieldLink RX4 47 "Formationist" "count" "I"] ++ wsX40 ++ (vx_atS RX4 205 "java/lang/IndexOutOfBoundsException" ["java/lang/RuntimeException", "java/lang/Exception"]).filter goodWord)
def wsX4_nextReceiver : List Cond := .code yX4_nextReceiver cX4_nextReceiver 4 (some .int) :: ([.fieldLink RX4 47 "Formationist" "count" "I", .fieldLink RX4 54 "Formationist" "net" "LFormationist$Net;", .fieldLink RX4 32 "Formationist" "lastReceivers" "[I", .instanceMethod yX1_joins, .initialized RX1, .selects RX1 yX1_joins yX1_joins, .code yX1_joins cX1_joins 3 (some .boolean), .fieldLink RX1 9 "Formationist$Net" "others" "[I", .methodLink RX1 28 yX1_holds, .static yX1_holds, .code yX1_holds cX1_holds 2 (some .boolean)] ++ wsX40 ++ wsX10)
def wsX4_handOver : List Cond := .code yX4_handOver cX4_handOver 4 none :: ([])
def wsX4_handHalves_r1 : List Cond := [Cond.fieldLink RX4 57 "Formationist" "changes" "[I", Cond.fieldLink RX4 60 "Formationist" "moreChanges" "[I", Cond.fieldLink RX4 47 "Formationist" "count" "I", Cond.fieldLink RX4 26 "Formationist" "sums" "[I", Cond.fieldLink RX4 29 "Formationist" "weights" "[I", Cond.fieldLink RX4 32 "Formationist" "lastReceivers" "[I", Cond.methodLink RX4 84 yJ7_fill_53178, Cond.static yJ7_fill_53178, Cond.initialized RJ7, Cond.code yJ7_fill_53178 cJ7_fill_53178 4 none, Cond.methodLink RX4 237 yX4_nextReceiver, Cond.instanceMethod yX4_nextReceiver, Cond.selects RX4 yX4_nextReceiver yX4_nextReceiver, Cond.initialized RX4, Cond.code yX4_nextReceiver cX4_nextReceiver 4 (some .int), Cond.fieldLink RX4 54 "Formationist" "net" "LFormationist$Net;", Cond.instanceMethod yX1_joins, Cond.initialized RX1, Cond.selects RX1 yX1_joins yX1_joins, Cond.code yX1_joins cX1_joins 3 (some .boolean), Cond.fieldLink RX1 9 "Formationist$Net" "others" "[I", Cond.methodLink RX1 28 yX1_holds, Cond.static yX1_holds, Cond.code yX1_holds cX1_holds 2 (some .boolean)]
def wsX4_handHalves_r2 : List Cond := [Cond.methodLink RX4 240 yX4_handOver, Cond.static yX4_handOver, Cond.code yX4_handOver cX4_handOver 4 none, Cond.methodLink RX4 227 yX4_addChanges, Cond.instanceMethod yX4_addChanges, Cond.selects RX4 yX4_addChanges yX4_addChanges, Cond.code yX4_addChanges cX4_addChanges 4 none]
def wsX4_handHalves : List Cond := .code yX4_handHalves cX4_handHalves 4 (some .int) :: ((wsX4_handHalves_r1 ++ wsX4_handHalves_r2) ++ wsX40 ++ wsX10)
def wsX4_spread_r1 : List Cond := [Cond.methodLink RX4 158 yX4_requireRounds, Cond.static yX4_requireRounds, Cond.initialized RX4, Cond.code yX4_requireRounds cX4_requireRounds 1 none, Cond.methodLink RX4 105 yX4_requireWithin, Cond.static yX4_requireWithin, Cond.code yX4_requireWithin cX4_requireWithin 3 none, Cond.classLink RX4 206 "java/lang/IllegalArgumentException", Cond.initialized "java/lang/IllegalArgumentException", Cond.methodLink RX4 125 yX4_drawNet, Cond.instanceMethod yX4_drawNet, Cond.selects RX4 yX4_drawNet yX4_drawNet, Cond.code yX4_drawNet cX4_drawNet 3 none, Cond.fieldLink RX4 54 "Formationist" "net" "LFormationist$Net;", Cond.fieldLink RX4 47 "Formationist" "count" "I", Cond.instanceMethod yX1_clear, Cond.initialized RX1, Cond.selects RX1 yX1_clear yX1_clear, Cond.code yX1_clear cX1_clear 1 none, Cond.fieldLink RX1 9 "Formationist$Net" "others" "[I", Cond.methodLink RX1 15 yJ7_fill_53178, Cond.static yJ7_fill_53178, Cond.initialized RJ7, Cond.code yJ7_fill_53178 cJ7_fill_53178 4 none]
def wsX4_spread_r2 : List Cond := [Cond.methodLink RX4 122 yX4_hears, Cond.instanceMethod yX4_hears, Cond.selects RX4 yX4_hears yX4_hears, Cond.code yX4_hears cX4_hears 3 (some .boolean), Cond.fieldLink RX4 16 "Formationist" "ups" "[Z", Cond.fieldLink RX4 43 "Formationist" "blocked" "LFormationist$Net;", Cond.fieldLink RX4 51 "Formationist" "range" "I", Cond.instanceMethod yX1_joins, Cond.selects RX1 yX1_joins yX1_joins, Cond.code yX1_joins cX1_joins 3 (some .boolean), Cond.methodLink RX1 28 yX1_holds, Cond.static yX1_holds, Cond.code yX1_holds cX1_holds 2 (some .boolean), Cond.methodLink RX4 215 yX4_squareBetween, Cond.instanceMethod yX4_squareBetween, Cond.selects RX4 yX4_squareBetween yX4_squareBetween, Cond.code yX4_squareBetween cX4_squareBetween 5 (some .int), Cond.fieldLink RX4 9 "Formationist" "xs" "[I", Cond.fieldLink RX4 13 "Formationist" "ys" "[I", Cond.instanceMethod yX1_join, Cond.selects RX1 yX1_join yX1_join, Cond.code yX1_join cX1_join 3 none, Cond.methodLink RX1 21 yX1_with, Cond.static yX1_with]
def wsX4_spread_r3 : List Cond := [Cond.code yX1_with cX1_with 2 (some .int), Cond.methodLink RX4 167 yX4_handHalves, Cond.instanceMethod yX4_handHalves, Cond.selects RX4 yX4_handHalves yX4_handHalves, Cond.code yX4_handHalves cX4_handHalves 4 (some .int), Cond.fieldLink RX4 57 "Formationist" "changes" "[I", Cond.fieldLink RX4 60 "Formationist" "moreChanges" "[I", Cond.fieldLink RX4 26 "Formationist" "sums" "[I", Cond.fieldLink RX4 29 "Formationist" "weights" "[I", Cond.fieldLink RX4 32 "Formationist" "lastReceivers" "[I", Cond.methodLink RX4 84 yJ7_fill_53178, Cond.methodLink RX4 237 yX4_nextReceiver, Cond.instanceMethod yX4_nextReceiver, Cond.selects RX4 yX4_nextReceiver yX4_nextReceiver, Cond.code yX4_nextReceiver cX4_nextReceiver 4 (some .int), Cond.methodLink RX4 240 yX4_handOver, Cond.static yX4_handOver, Cond.code yX4_handOver cX4_handOver 4 none, Cond.methodLink RX4 227 yX4_addChanges, Cond.instanceMethod yX4_addChanges, Cond.selects RX4 yX4_addChanges yX4_addChanges, Cond.code yX4_addChanges cX4_addChanges 4 none]
def wsX4_spread : List Cond := .code yX4_spread cX4_spread 4 (some .int) :: ((wsX4_spread_r1 ++ (wsX4_spread_r2 ++ wsX4_spread_r3)) ++ wsX40 ++ wsX10 ++ (vx_atS RX4 210 "java/lang/IllegalArgumentException" ["java/lang/RuntimeException", "java/lang/Exception"]).filter goodWord)
def wsX4_want : List Cond := .code yX4_want cX4_want 5 (some .int) :: ([.constant RX4 170 (8000000), .fieldLink RX4 37 "Formationist" "wantedSquares" "[[I", .methodLink RX4 109 yX4_requireUnlike, .instanceMethod yX4_requireUnlike, .selects RX4 yX4_requireUnlike yX4_requireUnlike, .initialized RX4, .code yX4_requireUnlike cX4_requireUnlike 3 none, .classLink RX4 206 "java/lang/IllegalArgumentException", .initialized "java/lang/IllegalArgumentException", .methodLink RX4 101 yX4_requireMember, .instanceMethod yX4_requireMember, .selects RX4 yX4_requireMember yX4_requireMember, .code yX4_requireMember cX4_requireMember 2 none, .classLink RX4 201 "java/lang/IndexOutOfBoundsException", .initialized "java/lang/IndexOutOfBoundsException", .fieldLink RX4 47 "Formationist" "count" "I", .methodLink RX4 105 yX4_requireWithin, .static yX4_requireWithin, .code yX4_requireWithin cX4_requireWithin 3 none] ++ wsX40 ++ (vx_atS RX4 210 "java/lang/IllegalArgumentException" ["java/lang/RuntimeException", "java/lang/Exception"]).filter goodWord ++ (vx_atS RX4 205 "java/lang/IndexOutOfBoundsException" ["java/lang/RuntimeException", "java/lang/Exception"]).filter goodWord)
def wsX4_excessOf : List Cond := .code yX4_excessOf cX4_excessOf 3 (some .int) :: ([.fieldLink RX4 54 "Formationist" "net" "LFormationist$Net;", .fieldLink RX4 37 "Formationist" "wantedSquares" "[[I", .instanceMethod yX1_joins, .initialized RX1, .selects RX1 yX1_joins yX1_joins, .code yX1_joins cX1_joins 3 (some .boolean), .fieldLink RX1 9 "Formationist$Net" "others" "[I", .methodLink RX1 28 yX1_holds, .static yX1_holds, .code yX1_holds cX1_holds 2 (some .boolean), .methodLink RX4 215 yX4_squareBetween, .instanceMethod yX4_squareBetween, .selects RX4 yX4_squareBetween yX4_squareBetween, .initialized RX4, .code yX4_squareBetween cX4_squareBetween 5 (some .int), .fieldLink RX4 9 "Formationist" "xs" "[I", .fieldLink RX4 13 "Formationist" "ys" "[I"] ++ wsX40 ++ wsX10)
def wsX4_error_r1 : List Cond := [Cond.fieldLink RX4 47 "Formationist" "count" "I", Cond.methodLink RX4 175 Lib.Math.abs.name, Cond.static Lib.Math.abs.name, Cond.initialized "java/lang/Math", Cond.code Lib.Math.abs.name Lib.Math.abs.code 1 (some .int), Cond.methodLink RX4 125 yX4_drawNet, Cond.instanceMethod yX4_drawNet, Cond.selects RX4 yX4_drawNet yX4_drawNet, Cond.initialized RX4, Cond.code yX4_drawNet cX4_drawNet 3 none, Cond.fieldLink RX4 54 "Formationist" "net" "LFormationist$Net;", Cond.instanceMethod yX1_clear, Cond.initialized RX1, Cond.selects RX1 yX1_clear yX1_clear, Cond.code yX1_clear cX1_clear 1 none, Cond.fieldLink RX1 9 "Formationist$Net" "others" "[I", Cond.methodLink RX1 15 yJ7_fill_53178, Cond.static yJ7_fill_53178, Cond.initialized RJ7, Cond.code yJ7_fill_53178 cJ7_fill_53178 4 none, Cond.methodLink RX4 122 yX4_hears, Cond.instanceMethod yX4_hears, Cond.selects RX4 yX4_hears yX4_hears, Cond.code yX4_hears cX4_hears 3 (some .boolean)]
def wsX4_error_r2 : List Cond := [Cond.fieldLink RX4 16 "Formationist" "ups" "[Z", Cond.fieldLink RX4 43 "Formationist" "blocked" "LFormationist$Net;", Cond.fieldLink RX4 51 "Formationist" "range" "I", Cond.instanceMethod yX1_joins, Cond.selects RX1 yX1_joins yX1_joins, Cond.code yX1_joins cX1_joins 3 (some .boolean), Cond.methodLink RX1 28 yX1_holds, Cond.static yX1_holds, Cond.code yX1_holds cX1_holds 2 (some .boolean), Cond.methodLink RX4 215 yX4_squareBetween, Cond.instanceMethod yX4_squareBetween, Cond.selects RX4 yX4_squareBetween yX4_squareBetween, Cond.code yX4_squareBetween cX4_squareBetween 5 (some .int), Cond.fieldLink RX4 9 "Formationist" "xs" "[I", Cond.fieldLink RX4 13 "Formationist" "ys" "[I", Cond.instanceMethod yX1_join, Cond.selects RX1 yX1_join yX1_join, Cond.code yX1_join cX1_join 3 none, Cond.methodLink RX1 21 yX1_with, Cond.static yX1_with, Cond.code yX1_with cX1_with 2 (some .int), Cond.methodLink RX4 171 yX4_excessOf, Cond.instanceMethod yX4_excessOf, Cond.selects RX4 yX4_excessOf yX4_excessOf]
def wsX4_error_r3 : List Cond := [Cond.code yX4_excessOf cX4_excessOf 3 (some .int), Cond.fieldLink RX4 37 "Formationist" "wantedSquares" "[[I"]
def wsX4_error : List Cond := .code yX4_error cX4_error 4 (some .int) :: ((wsX4_error_r1 ++ (wsX4_error_r2 ++ wsX4_error_r3)) ++ wsX40 ++ wsX10)
def wsX4_stepOf_r1 : List Cond := [Cond.fieldLink RX4 47 "Formationist" "count" "I", Cond.constantLong RX4 251 (1000000), Cond.constantLong RX4 253 (-50), Cond.constantLong RX4 255 (50), Cond.methodLink RX4 257 Lib.MathLoose.min_long.x, Cond.static Lib.MathLoose.min_long.x, Cond.initialized "java/lang/Math", Cond.code Lib.MathLoose.min_long.x Lib.MathLoose.min_long.code 4 (some .long), Cond.methodLink RX4 260 Lib.MathLoose.max_long.x, Cond.static Lib.MathLoose.max_long.x, Cond.code Lib.MathLoose.max_long.x Lib.MathLoose.max_long.code 4 (some .long), Cond.methodLink RX4 171 yX4_excessOf, Cond.instanceMethod yX4_excessOf, Cond.selects RX4 yX4_excessOf yX4_excessOf, Cond.initialized RX4, Cond.code yX4_excessOf cX4_excessOf 3 (some .int), Cond.fieldLink RX4 54 "Formationist" "net" "LFormationist$Net;", Cond.fieldLink RX4 37 "Formationist" "wantedSquares" "[[I", Cond.instanceMethod yX1_joins, Cond.initialized RX1, Cond.selects RX1 yX1_joins yX1_joins, Cond.code yX1_joins cX1_joins 3 (some .boolean), Cond.fieldLink RX1 9 "Formationist$Net" "others" "[I", Cond.methodLink RX1 28 yX1_holds]
def wsX4_stepOf_r2 : List Cond := [Cond.static yX1_holds, Cond.code yX1_holds cX1_holds 2 (some .boolean), Cond.methodLink RX4 215 yX4_squareBetween, Cond.instanceMethod yX4_squareBetween, Cond.selects RX4 yX4_squareBetween yX4_squareBetween, Cond.code yX4_squareBetween cX4_squareBetween 5 (some .int), Cond.fieldLink RX4 9 "Formationist" "xs" "[I", Cond.fieldLink RX4 13 "Formationist" "ys" "[I"]
def wsX4_stepOf : List Cond := .code yX4_stepOf cX4_stepOf 8 (some .int) :: ((wsX4_stepOf_r1 ++ wsX4_stepOf_r2) ++ wsX40 ++ wsX10)
def wsX4_keptOnPlane : List Cond := .code yX4_keptOnPlane cX4_keptOnPlane 1 (some .int) :: ([.methodLink RX4 234 Lib.Math.min.name, .static Lib.Math.min.name, .initialized "java/lang/Math", .code Lib.Math.min.name Lib.Math.min.code 2 (some .int), .methodLink RX4 231 Lib.Math.max.name, .static Lib.Math.max.name, .code Lib.Math.max.name Lib.Math.max.code 2 (some .int)])
def wsX4_stepTogether_r1 : List Cond := [Cond.fieldLink RX4 47 "Formationist" "count" "I", Cond.fieldLink RX4 57 "Formationist" "changes" "[I", Cond.fieldLink RX4 9 "Formationist" "xs" "[I", Cond.fieldLink RX4 60 "Formationist" "moreChanges" "[I", Cond.fieldLink RX4 13 "Formationist" "ys" "[I", Cond.methodLink RX4 125 yX4_drawNet, Cond.instanceMethod yX4_drawNet, Cond.selects RX4 yX4_drawNet yX4_drawNet, Cond.initialized RX4, Cond.code yX4_drawNet cX4_drawNet 3 none, Cond.fieldLink RX4 54 "Formationist" "net" "LFormationist$Net;", Cond.instanceMethod yX1_clear, Cond.initialized RX1, Cond.selects RX1 yX1_clear yX1_clear, Cond.code yX1_clear cX1_clear 1 none, Cond.fieldLink RX1 9 "Formationist$Net" "others" "[I", Cond.methodLink RX1 15 yJ7_fill_53178, Cond.static yJ7_fill_53178, Cond.initialized RJ7, Cond.code yJ7_fill_53178 cJ7_fill_53178 4 none, Cond.methodLink RX4 122 yX4_hears, Cond.instanceMethod yX4_hears, Cond.selects RX4 yX4_hears yX4_hears, Cond.code yX4_hears cX4_hears 3 (some .boolean)]
def wsX4_stepTogether_r2 : List Cond := [Cond.fieldLink RX4 16 "Formationist" "ups" "[Z", Cond.fieldLink RX4 43 "Formationist" "blocked" "LFormationist$Net;", Cond.fieldLink RX4 51 "Formationist" "range" "I", Cond.instanceMethod yX1_joins, Cond.selects RX1 yX1_joins yX1_joins, Cond.code yX1_joins cX1_joins 3 (some .boolean), Cond.methodLink RX1 28 yX1_holds, Cond.static yX1_holds, Cond.code yX1_holds cX1_holds 2 (some .boolean), Cond.methodLink RX4 215 yX4_squareBetween, Cond.instanceMethod yX4_squareBetween, Cond.selects RX4 yX4_squareBetween yX4_squareBetween, Cond.code yX4_squareBetween cX4_squareBetween 5 (some .int), Cond.instanceMethod yX1_join, Cond.selects RX1 yX1_join yX1_join, Cond.code yX1_join cX1_join 3 none, Cond.methodLink RX1 21 yX1_with, Cond.static yX1_with, Cond.code yX1_with cX1_with 2 (some .int), Cond.methodLink RX4 244 yX4_stepOf, Cond.instanceMethod yX4_stepOf, Cond.selects RX4 yX4_stepOf yX4_stepOf, Cond.code yX4_stepOf cX4_stepOf 8 (some .int), Cond.constantLong RX4 251 (1000000)]
def wsX4_stepTogether_r3 : List Cond := [Cond.constantLong RX4 253 (-50), Cond.constantLong RX4 255 (50), Cond.methodLink RX4 257 Lib.MathLoose.min_long.x, Cond.static Lib.MathLoose.min_long.x, Cond.initialized "java/lang/Math", Cond.code Lib.MathLoose.min_long.x Lib.MathLoose.min_long.code 4 (some .long), Cond.methodLink RX4 260 Lib.MathLoose.max_long.x, Cond.static Lib.MathLoose.max_long.x, Cond.code Lib.MathLoose.max_long.x Lib.MathLoose.max_long.code 4 (some .long), Cond.methodLink RX4 171 yX4_excessOf, Cond.instanceMethod yX4_excessOf, Cond.selects RX4 yX4_excessOf yX4_excessOf, Cond.code yX4_excessOf cX4_excessOf 3 (some .int), Cond.fieldLink RX4 37 "Formationist" "wantedSquares" "[[I", Cond.methodLink RX4 248 yX4_keptOnPlane, Cond.static yX4_keptOnPlane, Cond.code yX4_keptOnPlane cX4_keptOnPlane 1 (some .int), Cond.methodLink RX4 234 Lib.Math.min.name, Cond.static Lib.Math.min.name, Cond.code Lib.Math.min.name Lib.Math.min.code 2 (some .int), Cond.methodLink RX4 231 Lib.Math.max.name, Cond.static Lib.Math.max.name, Cond.code Lib.Math.max.name Lib.Math.max.code 2 (some .int)]
def wsX4_stepTogether : List Cond := .code yX4_stepTogether cX4_stepTogether 2 none :: ((wsX4_stepTogether_r1 ++ (wsX4_stepTogether_r2 ++ wsX4_stepTogether_r3)) ++ wsX40 ++ wsX10)
def wsX4_settle_r1 : List Cond := [Cond.methodLink RX4 158 yX4_requireRounds, Cond.static yX4_requireRounds, Cond.initialized RX4, Cond.code yX4_requireRounds cX4_requireRounds 1 none, Cond.methodLink RX4 105 yX4_requireWithin, Cond.static yX4_requireWithin, Cond.code yX4_requireWithin cX4_requireWithin 3 none, Cond.classLink RX4 206 "java/lang/IllegalArgumentException", Cond.initialized "java/lang/IllegalArgumentException", Cond.methodLink RX4 180 yX4_stepTogether, Cond.instanceMethod yX4_stepTogether, Cond.selects RX4 yX4_stepTogether yX4_stepTogether, Cond.code yX4_stepTogether cX4_stepTogether 2 none, Cond.fieldLink RX4 47 "Formationist" "count" "I", Cond.fieldLink RX4 57 "Formationist" "changes" "[I", Cond.fieldLink RX4 9 "Formationist" "xs" "[I", Cond.fieldLink RX4 60 "Formationist" "moreChanges" "[I", Cond.fieldLink RX4 13 "Formationist" "ys" "[I", Cond.methodLink RX4 125 yX4_drawNet, Cond.instanceMethod yX4_drawNet, Cond.selects RX4 yX4_drawNet yX4_drawNet, Cond.code yX4_drawNet cX4_drawNet 3 none, Cond.fieldLink RX4 54 "Formationist" "net" "LFormationist$Net;", Cond.instanceMethod yX1_clear]
def wsX4_settle_r2 : List Cond := [Cond.initialized RX1, Cond.selects RX1 yX1_clear yX1_clear, Cond.code yX1_clear cX1_clear 1 none, Cond.fieldLink RX1 9 "Formationist$Net" "others" "[I", Cond.methodLink RX1 15 yJ7_fill_53178, Cond.static yJ7_fill_53178, Cond.initialized RJ7, Cond.code yJ7_fill_53178 cJ7_fill_53178 4 none, Cond.methodLink RX4 122 yX4_hears, Cond.instanceMethod yX4_hears, Cond.selects RX4 yX4_hears yX4_hears, Cond.code yX4_hears cX4_hears 3 (some .boolean), Cond.fieldLink RX4 16 "Formationist" "ups" "[Z", Cond.fieldLink RX4 43 "Formationist" "blocked" "LFormationist$Net;", Cond.fieldLink RX4 51 "Formationist" "range" "I", Cond.instanceMethod yX1_joins, Cond.selects RX1 yX1_joins yX1_joins, Cond.code yX1_joins cX1_joins 3 (some .boolean), Cond.methodLink RX1 28 yX1_holds, Cond.static yX1_holds, Cond.code yX1_holds cX1_holds 2 (some .boolean), Cond.methodLink RX4 215 yX4_squareBetween, Cond.instanceMethod yX4_squareBetween, Cond.selects RX4 yX4_squareBetween yX4_squareBetween]
def wsX4_settle_r3 : List Cond := [Cond.code yX4_squareBetween cX4_squareBetween 5 (some .int), Cond.instanceMethod yX1_join, Cond.selects RX1 yX1_join yX1_join, Cond.code yX1_join cX1_join 3 none, Cond.methodLink RX1 21 yX1_with, Cond.static yX1_with, Cond.code yX1_with cX1_with 2 (some .int), Cond.methodLink RX4 244 yX4_stepOf, Cond.instanceMethod yX4_stepOf, Cond.selects RX4 yX4_stepOf yX4_stepOf, Cond.code yX4_stepOf cX4_stepOf 8 (some .int), Cond.constantLong RX4 251 (1000000), Cond.constantLong RX4 253 (-50), Cond.constantLong RX4 255 (50), Cond.methodLink RX4 257 Lib.MathLoose.min_long.x, Cond.static Lib.MathLoose.min_long.x, Cond.initialized "java/lang/Math", Cond.code Lib.MathLoose.min_long.x Lib.MathLoose.min_long.code 4 (some .long), Cond.methodLink RX4 260 Lib.MathLoose.max_long.x, Cond.static Lib.MathLoose.max_long.x, Cond.code Lib.MathLoose.max_long.x Lib.MathLoose.max_long.code 4 (some .long), Cond.methodLink RX4 171 yX4_excessOf, Cond.instanceMethod yX4_excessOf, Cond.selects RX4 yX4_excessOf yX4_excessOf]
def wsX4_settle_r4 : List Cond := [Cond.code yX4_excessOf cX4_excessOf 3 (some .int), Cond.fieldLink RX4 37 "Formationist" "wantedSquares" "[[I", Cond.methodLink RX4 248 yX4_keptOnPlane, Cond.static yX4_keptOnPlane, Cond.code yX4_keptOnPlane cX4_keptOnPlane 1 (some .int), Cond.methodLink RX4 234 Lib.Math.min.name, Cond.static Lib.Math.min.name, Cond.code Lib.Math.min.name Lib.Math.min.code 2 (some .int), Cond.methodLink RX4 231 Lib.Math.max.name, Cond.static Lib.Math.max.name, Cond.code Lib.Math.max.name Lib.Math.max.code 2 (some .int), Cond.methodLink RX4 183 yX4_error, Cond.instanceMethod yX4_error, Cond.selects RX4 yX4_error yX4_error, Cond.code yX4_error cX4_error 4 (some .int), Cond.methodLink RX4 175 Lib.Math.abs.name, Cond.static Lib.Math.abs.name, Cond.code Lib.Math.abs.name Lib.Math.abs.code 1 (some .int)]
def wsX4_settle : List Cond := .code yX4_settle cX4_settle 3 (some .int) :: ((wsX4_settle_r1 ++ (wsX4_settle_r2 ++ (wsX4_settle_r3 ++ wsX4_settle_r4))) ++ wsX40 ++ wsX10 ++ (vx_atS RX4 210 "java/lang/IllegalArgumentException" ["java/lang/RuntimeException", "java/lang/Exception"]).filter goodWord)
def wsX4_rank_r1 : List Cond := [Cond.fieldLink RX4 66 "Formationist" "pebbleGame" "LFormationist$PebbleGame;", Cond.fieldLink RX4 54 "Formationist" "net" "LFormationist$Net;", Cond.methodLink RX4 125 yX4_drawNet, Cond.instanceMethod yX4_drawNet, Cond.selects RX4 yX4_drawNet yX4_drawNet, Cond.initialized RX4, Cond.code yX4_drawNet cX4_drawNet 3 none, Cond.fieldLink RX4 47 "Formationist" "count" "I", Cond.instanceMethod yX1_clear, Cond.initialized RX1, Cond.selects RX1 yX1_clear yX1_clear, Cond.code yX1_clear cX1_clear 1 none, Cond.fieldLink RX1 9 "Formationist$Net" "others" "[I", Cond.methodLink RX1 15 yJ7_fill_53178, Cond.static yJ7_fill_53178, Cond.initialized RJ7, Cond.code yJ7_fill_53178 cJ7_fill_53178 4 none, Cond.methodLink RX4 122 yX4_hears, Cond.instanceMethod yX4_hears, Cond.selects RX4 yX4_hears yX4_hears, Cond.code yX4_hears cX4_hears 3 (some .boolean), Cond.fieldLink RX4 16 "Formationist" "ups" "[Z", Cond.fieldLink RX4 43 "Formationist" "blocked" "LFormationist$Net;", Cond.fieldLink RX4 51 "Formationist" "range" "I"]
def wsX4_rank_r2 : List Cond := [Cond.instanceMethod yX1_joins, Cond.selects RX1 yX1_joins yX1_joins, Cond.code yX1_joins cX1_joins 3 (some .boolean), Cond.methodLink RX1 28 yX1_holds, Cond.static yX1_holds, Cond.code yX1_holds cX1_holds 2 (some .boolean), Cond.methodLink RX4 215 yX4_squareBetween, Cond.instanceMethod yX4_squareBetween, Cond.selects RX4 yX4_squareBetween yX4_squareBetween, Cond.code yX4_squareBetween cX4_squareBetween 5 (some .int), Cond.fieldLink RX4 9 "Formationist" "xs" "[I", Cond.fieldLink RX4 13 "Formationist" "ys" "[I", Cond.instanceMethod yX1_join, Cond.selects RX1 yX1_join yX1_join, Cond.code yX1_join cX1_join 3 none, Cond.methodLink RX1 21 yX1_with, Cond.static yX1_with, Cond.code yX1_with cX1_with 2 (some .int), Cond.instanceMethod yX2_rankOf, Cond.initialized RX2, Cond.selects RX2 yX2_rankOf yX2_rankOf, Cond.code yX2_rankOf cX2_rankOf 5 (some .int), Cond.fieldLink RX2 9 "Formationist$PebbleGame" "pebbles" "[I", Cond.fieldLink RX2 15 "Formationist$PebbleGame" "arcs" "[I"]
def wsX4_rank_r3 : List Cond := [Cond.methodLink RX2 21 yJ7_fill_53178, Cond.methodLink RX2 33 yX2_gatherPebbles, Cond.instanceMethod yX2_gatherPebbles, Cond.selects RX2 yX2_gatherPebbles yX2_gatherPebbles, Cond.code yX2_gatherPebbles cX2_gatherPebbles 4 (some .boolean), Cond.methodLink RX2 40 yX2_fetchPebble, Cond.instanceMethod yX2_fetchPebble, Cond.selects RX2 yX2_fetchPebble yX2_fetchPebble, Cond.code yX2_fetchPebble cX2_fetchPebble 4 (some .boolean), Cond.methodLink RX2 43 yX2_findPebble, Cond.instanceMethod yX2_findPebble, Cond.selects RX2 yX2_findPebble yX2_findPebble, Cond.code yX2_findPebble cX2_findPebble 9 (some .int), Cond.fieldLink RX2 18 "Formationist$PebbleGame" "cameFrom" "[I", Cond.methodLink RX2 53 yX2_noteWay, Cond.instanceMethod yX2_noteWay, Cond.selects RX2 yX2_noteWay yX2_noteWay, Cond.code yX2_noteWay cX2_noteWay 4 none, Cond.methodLink RX2 57 yX2_holderAmong, Cond.instanceMethod yX2_holderAmong, Cond.selects RX2 yX2_holderAmong yX2_holderAmong, Cond.code yX2_holderAmong cX2_holderAmong 3 (some .int), Cond.methodLink RX2 46 yX2_turnArcs, Cond.instanceMethod yX2_turnArcs]
def wsX4_rank_r4 : List Cond := [Cond.selects RX2 yX2_turnArcs yX2_turnArcs, Cond.code yX2_turnArcs cX2_turnArcs 5 none, Cond.static yX1_without, Cond.code yX1_without cX1_without 2 (some .int)]
def wsX4_rank : List Cond := .code yX4_rank cX4_rank 1 (some .int) :: ((wsX4_rank_r1 ++ (wsX4_rank_r2 ++ (wsX4_rank_r3 ++ wsX4_rank_r4))) ++ wsX40 ++ wsX10 ++ wsX20)
def wsX4_rankByCounting_r1 : List Cond := [Cond.fieldLink RX4 73 "Formationist" "linkCounts" "LFormationist$LinkCounts;", Cond.fieldLink RX4 54 "Formationist" "net" "LFormationist$Net;", Cond.methodLink RX4 125 yX4_drawNet, Cond.instanceMethod yX4_drawNet, Cond.selects RX4 yX4_drawNet yX4_drawNet, Cond.initialized RX4, Cond.code yX4_drawNet cX4_drawNet 3 none, Cond.fieldLink RX4 47 "Formationist" "count" "I", Cond.instanceMethod yX1_clear, Cond.initialized RX1, Cond.selects RX1 yX1_clear yX1_clear, Cond.code yX1_clear cX1_clear 1 none, Cond.fieldLink RX1 9 "Formationist$Net" "others" "[I", Cond.methodLink RX1 15 yJ7_fill_53178, Cond.static yJ7_fill_53178, Cond.initialized RJ7, Cond.code yJ7_fill_53178 cJ7_fill_53178 4 none, Cond.methodLink RX4 122 yX4_hears, Cond.instanceMethod yX4_hears, Cond.selects RX4 yX4_hears yX4_hears, Cond.code yX4_hears cX4_hears 3 (some .boolean), Cond.fieldLink RX4 16 "Formationist" "ups" "[Z", Cond.fieldLink RX4 43 "Formationist" "blocked" "LFormationist$Net;", Cond.fieldLink RX4 51 "Formationist" "range" "I"]
def wsX4_rankByCounting_r2 : List Cond := [Cond.instanceMethod yX1_joins, Cond.selects RX1 yX1_joins yX1_joins, Cond.code yX1_joins cX1_joins 3 (some .boolean), Cond.methodLink RX1 28 yX1_holds, Cond.static yX1_holds, Cond.code yX1_holds cX1_holds 2 (some .boolean), Cond.methodLink RX4 215 yX4_squareBetween, Cond.instanceMethod yX4_squareBetween, Cond.selects RX4 yX4_squareBetween yX4_squareBetween, Cond.code yX4_squareBetween cX4_squareBetween 5 (some .int), Cond.fieldLink RX4 9 "Formationist" "xs" "[I", Cond.fieldLink RX4 13 "Formationist" "ys" "[I", Cond.instanceMethod yX1_join, Cond.selects RX1 yX1_join yX1_join, Cond.code yX1_join cX1_join 3 none, Cond.methodLink RX1 21 yX1_with, Cond.static yX1_with, Cond.code yX1_with cX1_with 2 (some .int), Cond.instanceMethod yX0_rankOf, Cond.initialized RX0, Cond.selects RX0 yX0_rankOf yX0_rankOf, Cond.code yX0_rankOf cX0_rankOf 6 (some .int), Cond.fieldLink RX0 11 "Formationist$LinkCounts" "linksWithin" "[I", Cond.methodLink RX0 15 yJ7_fill_53178]
def wsX4_rankByCounting_r3 : List Cond := [Cond.methodLink RX0 31 yX0_leavesFree, Cond.instanceMethod yX0_leavesFree, Cond.selects RX0 yX0_leavesFree yX0_leavesFree, Cond.code yX0_leavesFree cX0_leavesFree 4 (some .boolean), Cond.methodLink RX0 39 yJ6_bitCount_0f7a4, Cond.static yJ6_bitCount_0f7a4, Cond.initialized RJ6, Cond.code yJ6_bitCount_0f7a4 cJ6_bitCount_0f7a4 1 (some .int), Cond.constant RJ6 265 (1431655765), Cond.constant RJ6 266 (858993459), Cond.constant RJ6 267 (252645135), Cond.methodLink RX0 35 yX0_keepLink, Cond.instanceMethod yX0_keepLink, Cond.selects RX0 yX0_keepLink yX0_keepLink, Cond.code yX0_keepLink cX0_keepLink 3 none]
def wsX4_rankByCounting : List Cond := .code yX4_rankByCounting cX4_rankByCounting 1 (some .int) :: ((wsX4_rankByCounting_r1 ++ (wsX4_rankByCounting_r2 ++ wsX4_rankByCounting_r3)) ++ wsX40 ++ wsX10 ++ wsX00)
def wsX4_isRigid_r1 : List Cond := [Cond.fieldLink RX4 66 "Formationist" "pebbleGame" "LFormationist$PebbleGame;", Cond.fieldLink RX4 54 "Formationist" "net" "LFormationist$Net;", Cond.methodLink RX4 125 yX4_drawNet, Cond.instanceMethod yX4_drawNet, Cond.selects RX4 yX4_drawNet yX4_drawNet, Cond.initialized RX4, Cond.code yX4_drawNet cX4_drawNet 3 none, Cond.fieldLink RX4 47 "Formationist" "count" "I", Cond.instanceMethod yX1_clear, Cond.initialized RX1, Cond.selects RX1 yX1_clear yX1_clear, Cond.code yX1_clear cX1_clear 1 none, Cond.fieldLink RX1 9 "Formationist$Net" "others" "[I", Cond.methodLink RX1 15 yJ7_fill_53178, Cond.static yJ7_fill_53178, Cond.initialized RJ7, Cond.code yJ7_fill_53178 cJ7_fill_53178 4 none, Cond.methodLink RX4 122 yX4_hears, Cond.instanceMethod yX4_hears, Cond.selects RX4 yX4_hears yX4_hears, Cond.code yX4_hears cX4_hears 3 (some .boolean), Cond.fieldLink RX4 16 "Formationist" "ups" "[Z", Cond.fieldLink RX4 43 "Formationist" "blocked" "LFormationist$Net;", Cond.fieldLink RX4 51 "Formationist" "range" "I"]
def wsX4_isRigid_r2 : List Cond := [Cond.instanceMethod yX1_joins, Cond.selects RX1 yX1_joins yX1_joins, Cond.code yX1_joins cX1_joins 3 (some .boolean), Cond.methodLink RX1 28 yX1_holds, Cond.static yX1_holds, Cond.code yX1_holds cX1_holds 2 (some .boolean), Cond.methodLink RX4 215 yX4_squareBetween, Cond.instanceMethod yX4_squareBetween, Cond.selects RX4 yX4_squareBetween yX4_squareBetween, Cond.code yX4_squareBetween cX4_squareBetween 5 (some .int), Cond.fieldLink RX4 9 "Formationist" "xs" "[I", Cond.fieldLink RX4 13 "Formationist" "ys" "[I", Cond.instanceMethod yX1_join, Cond.selects RX1 yX1_join yX1_join, Cond.code yX1_join cX1_join 3 none, Cond.methodLink RX1 21 yX1_with, Cond.static yX1_with, Cond.code yX1_with cX1_with 2 (some .int), Cond.methodLink RX4 148 yX4_upSet, Cond.instanceMethod yX4_upSet, Cond.selects RX4 yX4_upSet yX4_upSet, Cond.code yX4_upSet cX4_upSet 3 (some .int), Cond.methodLink RX4 191 yJ6_bitCount_0f7a4, Cond.static yJ6_bitCount_0f7a4]
def wsX4_isRigid_r3 : List Cond := [Cond.initialized RJ6, Cond.code yJ6_bitCount_0f7a4 cJ6_bitCount_0f7a4 1 (some .int), Cond.constant RJ6 265 (1431655765), Cond.constant RJ6 266 (858993459), Cond.constant RJ6 267 (252645135), Cond.methodLink RX4 136 yX4_countGroups, Cond.instanceMethod yX4_countGroups, Cond.selects RX4 yX4_countGroups yX4_countGroups, Cond.code yX4_countGroups cX4_countGroups 4 (some .int), Cond.instanceMethod yX1_groupOf, Cond.selects RX1 yX1_groupOf yX1_groupOf, Cond.code yX1_groupOf cX1_groupOf 6 (some .int), Cond.instanceMethod yX2_rankOf, Cond.initialized RX2, Cond.selects RX2 yX2_rankOf yX2_rankOf, Cond.code yX2_rankOf cX2_rankOf 5 (some .int), Cond.fieldLink RX2 9 "Formationist$PebbleGame" "pebbles" "[I", Cond.fieldLink RX2 15 "Formationist$PebbleGame" "arcs" "[I", Cond.methodLink RX2 21 yJ7_fill_53178, Cond.methodLink RX2 33 yX2_gatherPebbles, Cond.instanceMethod yX2_gatherPebbles, Cond.selects RX2 yX2_gatherPebbles yX2_gatherPebbles, Cond.code yX2_gatherPebbles cX2_gatherPebbles 4 (some .boolean), Cond.methodLink RX2 40 yX2_fetchPebble]
def wsX4_isRigid_r4 : List Cond := [Cond.instanceMethod yX2_fetchPebble, Cond.selects RX2 yX2_fetchPebble yX2_fetchPebble, Cond.code yX2_fetchPebble cX2_fetchPebble 4 (some .boolean), Cond.methodLink RX2 43 yX2_findPebble, Cond.instanceMethod yX2_findPebble, Cond.selects RX2 yX2_findPebble yX2_findPebble, Cond.code yX2_findPebble cX2_findPebble 9 (some .int), Cond.fieldLink RX2 18 "Formationist$PebbleGame" "cameFrom" "[I", Cond.methodLink RX2 53 yX2_noteWay, Cond.instanceMethod yX2_noteWay, Cond.selects RX2 yX2_noteWay yX2_noteWay, Cond.code yX2_noteWay cX2_noteWay 4 none, Cond.methodLink RX2 57 yX2_holderAmong, Cond.instanceMethod yX2_holderAmong, Cond.selects RX2 yX2_holderAmong yX2_holderAmong, Cond.code yX2_holderAmong cX2_holderAmong 3 (some .int), Cond.methodLink RX2 46 yX2_turnArcs, Cond.instanceMethod yX2_turnArcs, Cond.selects RX2 yX2_turnArcs yX2_turnArcs, Cond.code yX2_turnArcs cX2_turnArcs 5 none, Cond.static yX1_without, Cond.code yX1_without cX1_without 2 (some .int)]
def wsX4_isRigid : List Cond := .code yX4_isRigid cX4_isRigid 2 (some .boolean) :: ((wsX4_isRigid_r1 ++ (wsX4_isRigid_r2 ++ (wsX4_isRigid_r3 ++ wsX4_isRigid_r4))) ++ wsX40 ++ wsX10 ++ wsX20)
def wsX4_isSpare_r1 : List Cond := [Cond.classLink RX4 196 "java/util/NoSuchElementException", Cond.initialized "java/util/NoSuchElementException", Cond.fieldLink RX4 66 "Formationist" "pebbleGame" "LFormationist$PebbleGame;", Cond.fieldLink RX4 54 "Formationist" "net" "LFormationist$Net;", Cond.methodLink RX4 101 yX4_requireMember, Cond.instanceMethod yX4_requireMember, Cond.selects RX4 yX4_requireMember yX4_requireMember, Cond.initialized RX4, Cond.code yX4_requireMember cX4_requireMember 2 none, Cond.classLink RX4 201 "java/lang/IndexOutOfBoundsException", Cond.initialized "java/lang/IndexOutOfBoundsException", Cond.fieldLink RX4 47 "Formationist" "count" "I", Cond.methodLink RX4 122 yX4_hears, Cond.instanceMethod yX4_hears, Cond.selects RX4 yX4_hears yX4_hears, Cond.code yX4_hears cX4_hears 3 (some .boolean), Cond.fieldLink RX4 16 "Formationist" "ups" "[Z", Cond.fieldLink RX4 43 "Formationist" "blocked" "LFormationist$Net;", Cond.fieldLink RX4 51 "Formationist" "range" "I", Cond.instanceMethod yX1_joins, Cond.initialized RX1, Cond.selects RX1 yX1_joins yX1_joins, Cond.code yX1_joins cX1_joins 3 (some .boolean), Cond.fieldLink RX1 9 "Formationist$Net" "others" "[I"]
def wsX4_isSpare_r2 : List Cond := [Cond.methodLink RX1 28 yX1_holds, Cond.static yX1_holds, Cond.code yX1_holds cX1_holds 2 (some .boolean), Cond.methodLink RX4 215 yX4_squareBetween, Cond.instanceMethod yX4_squareBetween, Cond.selects RX4 yX4_squareBetween yX4_squareBetween, Cond.code yX4_squareBetween cX4_squareBetween 5 (some .int), Cond.fieldLink RX4 9 "Formationist" "xs" "[I", Cond.fieldLink RX4 13 "Formationist" "ys" "[I", Cond.methodLink RX4 125 yX4_drawNet, Cond.instanceMethod yX4_drawNet, Cond.selects RX4 yX4_drawNet yX4_drawNet, Cond.code yX4_drawNet cX4_drawNet 3 none, Cond.instanceMethod yX1_clear, Cond.selects RX1 yX1_clear yX1_clear, Cond.code yX1_clear cX1_clear 1 none, Cond.methodLink RX1 15 yJ7_fill_53178, Cond.static yJ7_fill_53178, Cond.initialized RJ7, Cond.code yJ7_fill_53178 cJ7_fill_53178 4 none, Cond.instanceMethod yX1_join, Cond.selects RX1 yX1_join yX1_join, Cond.code yX1_join cX1_join 3 none, Cond.methodLink RX1 21 yX1_with]
def wsX4_isSpare_r3 : List Cond := [Cond.static yX1_with, Cond.code yX1_with cX1_with 2 (some .int), Cond.instanceMethod yX2_rankOf, Cond.initialized RX2, Cond.selects RX2 yX2_rankOf yX2_rankOf, Cond.code yX2_rankOf cX2_rankOf 5 (some .int), Cond.fieldLink RX2 9 "Formationist$PebbleGame" "pebbles" "[I", Cond.fieldLink RX2 15 "Formationist$PebbleGame" "arcs" "[I", Cond.methodLink RX2 21 yJ7_fill_53178, Cond.methodLink RX2 33 yX2_gatherPebbles, Cond.instanceMethod yX2_gatherPebbles, Cond.selects RX2 yX2_gatherPebbles yX2_gatherPebbles, Cond.code yX2_gatherPebbles cX2_gatherPebbles 4 (some .boolean), Cond.methodLink RX2 40 yX2_fetchPebble, Cond.instanceMethod yX2_fetchPebble, Cond.selects RX2 yX2_fetchPebble yX2_fetchPebble, Cond.code yX2_fetchPebble cX2_fetchPebble 4 (some .boolean), Cond.methodLink RX2 43 yX2_findPebble, Cond.instanceMethod yX2_findPebble, Cond.selects RX2 yX2_findPebble yX2_findPebble, Cond.code yX2_findPebble cX2_findPebble 9 (some .int), Cond.fieldLink RX2 18 "Formationist$PebbleGame" "cameFrom" "[I", Cond.methodLink RX2 53 yX2_noteWay, Cond.instanceMethod yX2_noteWay]
def wsX4_isSpare_r4 : List Cond := [Cond.selects RX2 yX2_noteWay yX2_noteWay, Cond.code yX2_noteWay cX2_noteWay 4 none, Cond.methodLink RX2 57 yX2_holderAmong, Cond.instanceMethod yX2_holderAmong, Cond.selects RX2 yX2_holderAmong yX2_holderAmong, Cond.code yX2_holderAmong cX2_holderAmong 3 (some .int), Cond.methodLink RX2 46 yX2_turnArcs, Cond.instanceMethod yX2_turnArcs, Cond.selects RX2 yX2_turnArcs yX2_turnArcs, Cond.code yX2_turnArcs cX2_turnArcs 5 none, Cond.static yX1_without, Cond.code yX1_without cX1_without 2 (some .int), Cond.instanceMethod yX1_cut, Cond.selects RX1 yX1_cut yX1_cut, Cond.code yX1_cut cX1_cut 3 none, Cond.methodLink RX1 25 yX1_without]
def wsX4_isSpare : List Cond := .code yX4_isSpare cX4_isSpare 4 (some .boolean) :: ((wsX4_isSpare_r1 ++ (wsX4_isSpare_r2 ++ (wsX4_isSpare_r3 ++ wsX4_isSpare_r4))) ++ wsX40 ++ wsX10 ++ wsX20 ++ fx_at200.filter goodWord ++ (vx_atS RX4 205 "java/lang/IndexOutOfBoundsException" ["java/lang/RuntimeException", "java/lang/Exception"]).filter goodWord)
def wsJ9_abs_0f7a4 : List Cond := .code yJ9_abs_0f7a4 cJ9_abs_0f7a4 1 (some .int) :: ([])
def wsJ9_max_7cf53 : List Cond := .code yJ9_max_7cf53 cJ9_max_7cf53 2 (some .int) :: ([])
def wsJ9_max_f86c9 : List Cond := .code yJ9_max_f86c9 cJ9_max_f86c9 4 (some .long) :: ([])
def wsJ9_min_7cf53 : List Cond := .code yJ9_min_7cf53 cJ9_min_7cf53 2 (some .int) :: ([])
def wsJ9_min_f86c9 : List Cond := .code yJ9_min_f86c9 cJ9_min_f86c9 4 (some .long) :: ([])
def wsL_from : List Cond := .code yL_from cL_from 4 (some .int) :: ([.constant RL 7 (110969), .constant RL 8 (2147483647)])
def wsL_pair : List Cond := .code yL_pair cL_pair 2 (some .int) :: ([])
def wsL_square : List Cond := .code yL_square cL_square 5 (some .int) :: ([])
def wsL_heard : List Cond := .code yL_heard cL_heard 6 (some .int) :: ([.methodLink RL 9 yL_pair, .static yL_pair, .initialized RL, .code yL_pair cL_pair 2 (some .int), .methodLink RL 15 yL_square, .static yL_square, .code yL_square cL_square 5 (some .int)])
def wsL_ones : List Cond := .code yL_ones cL_ones 3 (some .int) :: ([])
def wsL_up : List Cond := .code yL_up cL_up 3 (some .int) :: ([])
def wsL_group : List Cond := .code yL_group cL_group 6 (some .int) :: ([])
def wsL_links : List Cond := .code yL_links cL_links 5 (some .int) :: ([.methodLink RL 19 yL_heard, .static yL_heard, .initialized RL, .code yL_heard cL_heard 6 (some .int), .methodLink RL 9 yL_pair, .static yL_pair, .code yL_pair cL_pair 2 (some .int), .methodLink RL 15 yL_square, .static yL_square, .code yL_square cL_square 5 (some .int)])
def wsL_isFree : List Cond := .code yL_isFree cL_isFree 4 (some .boolean) :: ([.methodLink RL 23 yL_ones, .static yL_ones, .initialized RL, .code yL_ones cL_ones 3 (some .int)])
def wsL_rank : List Cond := .code yL_rank cL_rank 3 (some .int) :: ([.methodLink RL 23 yL_ones, .static yL_ones, .initialized RL, .code yL_ones cL_ones 3 (some .int), .methodLink RL 27 yL_isFree, .static yL_isFree, .code yL_isFree cL_isFree 4 (some .boolean)])
def wsL_trees : List Cond := .code yL_trees cL_trees 6 (some .long) :: ([.methodLink RL 23 yL_ones, .static yL_ones, .initialized RL, .code yL_ones cL_ones 3 (some .int), .methodLink RL 31 yL_group, .static yL_group, .code yL_group cL_group 6 (some .int)])
def wsL_isLinked_r1 : List Cond := [Cond.methodLink RL 34 yL_links, Cond.static yL_links, Cond.initialized RL, Cond.code yL_links cL_links 5 (some .int), Cond.methodLink RL 19 yL_heard, Cond.static yL_heard, Cond.code yL_heard cL_heard 6 (some .int), Cond.methodLink RL 9 yL_pair, Cond.static yL_pair, Cond.code yL_pair cL_pair 2 (some .int), Cond.methodLink RL 15 yL_square, Cond.static yL_square, Cond.code yL_square cL_square 5 (some .int), Cond.methodLink RL 38 yX4_links, Cond.instanceMethod yX4_links, Cond.selects RX4 yX4_links yX4_links, Cond.initialized RX4, Cond.code yX4_links cX4_links 1 (some .int), Cond.fieldLink RX4 54 "Formationist" "net" "LFormationist$Net;", Cond.methodLink RX4 125 yX4_drawNet, Cond.instanceMethod yX4_drawNet, Cond.selects RX4 yX4_drawNet yX4_drawNet, Cond.code yX4_drawNet cX4_drawNet 3 none, Cond.fieldLink RX4 47 "Formationist" "count" "I"]
def wsL_isLinked_r2 : List Cond := [Cond.instanceMethod yX1_clear, Cond.initialized RX1, Cond.selects RX1 yX1_clear yX1_clear, Cond.code yX1_clear cX1_clear 1 none, Cond.fieldLink RX1 9 "Formationist$Net" "others" "[I", Cond.methodLink RX1 15 yJ7_fill_53178, Cond.static yJ7_fill_53178, Cond.initialized RJ7, Cond.code yJ7_fill_53178 cJ7_fill_53178 4 none, Cond.methodLink RX4 122 yX4_hears, Cond.instanceMethod yX4_hears, Cond.selects RX4 yX4_hears yX4_hears, Cond.code yX4_hears cX4_hears 3 (some .boolean), Cond.fieldLink RX4 16 "Formationist" "ups" "[Z", Cond.fieldLink RX4 43 "Formationist" "blocked" "LFormationist$Net;", Cond.fieldLink RX4 51 "Formationist" "range" "I", Cond.instanceMethod yX1_joins, Cond.selects RX1 yX1_joins yX1_joins, Cond.code yX1_joins cX1_joins 3 (some .boolean), Cond.methodLink RX1 28 yX1_holds, Cond.static yX1_holds, Cond.code yX1_holds cX1_holds 2 (some .boolean), Cond.methodLink RX4 215 yX4_squareBetween, Cond.instanceMethod yX4_squareBetween]
def wsL_isLinked_r3 : List Cond := [Cond.selects RX4 yX4_squareBetween yX4_squareBetween, Cond.code yX4_squareBetween cX4_squareBetween 5 (some .int), Cond.fieldLink RX4 9 "Formationist" "xs" "[I", Cond.fieldLink RX4 13 "Formationist" "ys" "[I", Cond.instanceMethod yX1_join, Cond.selects RX1 yX1_join yX1_join, Cond.code yX1_join cX1_join 3 none, Cond.methodLink RX1 21 yX1_with, Cond.static yX1_with, Cond.code yX1_with cX1_with 2 (some .int), Cond.instanceMethod yX1_pairCount, Cond.selects RX1 yX1_pairCount yX1_pairCount, Cond.code yX1_pairCount cX1_pairCount 3 (some .int), Cond.methodLink RX1 38 yX1_degreeOf, Cond.instanceMethod yX1_degreeOf, Cond.selects RX1 yX1_degreeOf yX1_degreeOf, Cond.code yX1_degreeOf cX1_degreeOf 2 (some .int), Cond.methodLink RX1 32 yJ6_bitCount_0f7a4, Cond.static yJ6_bitCount_0f7a4, Cond.initialized RJ6, Cond.code yJ6_bitCount_0f7a4 cJ6_bitCount_0f7a4 1 (some .int), Cond.constant RJ6 265 (1431655765), Cond.constant RJ6 266 (858993459), Cond.constant RJ6 267 (252645135)]
def wsL_isLinked_r4 : List Cond := [Cond.methodLink RL 23 yL_ones, Cond.static yL_ones, Cond.code yL_ones cL_ones 3 (some .int), Cond.methodLink RL 43 yX4_members, Cond.instanceMethod yX4_members, Cond.selects RX4 yX4_members yX4_members, Cond.code yX4_members cX4_members 1 (some .int), Cond.methodLink RL 31 yL_group, Cond.static yL_group, Cond.code yL_group cL_group 6 (some .int), Cond.methodLink RL 46 yX4_areLinked, Cond.instanceMethod yX4_areLinked, Cond.selects RX4 yX4_areLinked yX4_areLinked, Cond.code yX4_areLinked cX4_areLinked 3 (some .boolean), Cond.methodLink RX4 101 yX4_requireMember, Cond.instanceMethod yX4_requireMember, Cond.selects RX4 yX4_requireMember yX4_requireMember, Cond.code yX4_requireMember cX4_requireMember 2 none, Cond.classLink RX4 201 "java/lang/IndexOutOfBoundsException", Cond.initialized "java/lang/IndexOutOfBoundsException", Cond.methodLink RL 50 yX4_degree, Cond.instanceMethod yX4_degree, Cond.selects RX4 yX4_degree yX4_degree, Cond.code yX4_degree cX4_degree 2 (some .int)]
def wsL_isLinked_r5 : List Cond := [Cond.methodLink RL 53 yX4_leader, Cond.instanceMethod yX4_leader, Cond.selects RX4 yX4_leader yX4_leader, Cond.code yX4_leader cX4_leader 5 (some .int), Cond.instanceMethod yX1_groupOf, Cond.selects RX1 yX1_groupOf yX1_groupOf, Cond.code yX1_groupOf cX1_groupOf 6 (some .int), Cond.methodLink RX4 145 yX4_outranks, Cond.instanceMethod yX4_outranks, Cond.selects RX4 yX4_outranks yX4_outranks, Cond.code yX4_outranks cX4_outranks 3 (some .boolean), Cond.fieldLink RX4 20 "Formationist" "priorities" "[I", Cond.methodLink RL 56 yX4_xOf, Cond.instanceMethod yX4_xOf, Cond.selects RX4 yX4_xOf yX4_xOf, Cond.code yX4_xOf cX4_xOf 2 (some .int), Cond.methodLink RL 59 yX4_yOf, Cond.instanceMethod yX4_yOf, Cond.selects RX4 yX4_yOf yX4_yOf, Cond.code yX4_yOf cX4_yOf 2 (some .int), Cond.methodLink RL 62 yX4_estimate, Cond.instanceMethod yX4_estimate, Cond.selects RX4 yX4_estimate yX4_estimate, Cond.code yX4_estimate cX4_estimate 2 (some .int)]
def wsL_isLinked_r6 : List Cond := [Cond.fieldLink RX4 23 "Formationist" "estimates" "[I", Cond.methodLink RL 65 yX4_sum, Cond.instanceMethod yX4_sum, Cond.selects RX4 yX4_sum yX4_sum, Cond.code yX4_sum cX4_sum 2 (some .int), Cond.fieldLink RX4 26 "Formationist" "sums" "[I", Cond.methodLink RL 68 yX4_weight, Cond.instanceMethod yX4_weight, Cond.selects RX4 yX4_weight yX4_weight, Cond.code yX4_weight cX4_weight 2 (some .int), Cond.fieldLink RX4 29 "Formationist" "weights" "[I", Cond.methodLink RL 71 yX4_groups, Cond.instanceMethod yX4_groups, Cond.selects RX4 yX4_groups yX4_groups, Cond.code yX4_groups cX4_groups 1 (some .int), Cond.methodLink RX4 136 yX4_countGroups, Cond.instanceMethod yX4_countGroups, Cond.selects RX4 yX4_countGroups yX4_countGroups, Cond.code yX4_countGroups cX4_countGroups 4 (some .int)]
def wsL_isLinked : List Cond := .code yL_isLinked cL_isLinked 11 (some .boolean) :: ((wsL_isLinked_r1 ++ (wsL_isLinked_r2 ++ (wsL_isLinked_r3 ++ (wsL_isLinked_r4 ++ (wsL_isLinked_r5 ++ wsL_isLinked_r6))))) ++ wsX40 ++ wsX10 ++ (vx_atS RX4 205 "java/lang/IndexOutOfBoundsException" ["java/lang/RuntimeException", "java/lang/Exception"]).filter goodWord)
def wsL_spare_r1 : List Cond := [Cond.classLink RL 77 "java/util/NoSuchElementException", Cond.methodLink RL 74 yX4_isSpare, Cond.instanceMethod yX4_isSpare, Cond.selects RX4 yX4_isSpare yX4_isSpare, Cond.initialized RX4, Cond.code yX4_isSpare cX4_isSpare 4 (some .boolean), Cond.classLink RX4 196 "java/util/NoSuchElementException", Cond.initialized "java/util/NoSuchElementException", Cond.fieldLink RX4 66 "Formationist" "pebbleGame" "LFormationist$PebbleGame;", Cond.fieldLink RX4 54 "Formationist" "net" "LFormationist$Net;", Cond.methodLink RX4 101 yX4_requireMember, Cond.instanceMethod yX4_requireMember, Cond.selects RX4 yX4_requireMember yX4_requireMember, Cond.code yX4_requireMember cX4_requireMember 2 none, Cond.classLink RX4 201 "java/lang/IndexOutOfBoundsException", Cond.initialized "java/lang/IndexOutOfBoundsException", Cond.fieldLink RX4 47 "Formationist" "count" "I", Cond.methodLink RX4 122 yX4_hears, Cond.instanceMethod yX4_hears, Cond.selects RX4 yX4_hears yX4_hears, Cond.code yX4_hears cX4_hears 3 (some .boolean), Cond.fieldLink RX4 16 "Formationist" "ups" "[Z", Cond.fieldLink RX4 43 "Formationist" "blocked" "LFormationist$Net;", Cond.fieldLink RX4 51 "Formationist" "range" "I"]
def wsL_spare_r2 : List Cond := [Cond.instanceMethod yX1_joins, Cond.initialized RX1, Cond.selects RX1 yX1_joins yX1_joins, Cond.code yX1_joins cX1_joins 3 (some .boolean), Cond.fieldLink RX1 9 "Formationist$Net" "others" "[I", Cond.methodLink RX1 28 yX1_holds, Cond.static yX1_holds, Cond.code yX1_holds cX1_holds 2 (some .boolean), Cond.methodLink RX4 215 yX4_squareBetween, Cond.instanceMethod yX4_squareBetween, Cond.selects RX4 yX4_squareBetween yX4_squareBetween, Cond.code yX4_squareBetween cX4_squareBetween 5 (some .int), Cond.fieldLink RX4 9 "Formationist" "xs" "[I", Cond.fieldLink RX4 13 "Formationist" "ys" "[I", Cond.methodLink RX4 125 yX4_drawNet, Cond.instanceMethod yX4_drawNet, Cond.selects RX4 yX4_drawNet yX4_drawNet, Cond.code yX4_drawNet cX4_drawNet 3 none, Cond.instanceMethod yX1_clear, Cond.selects RX1 yX1_clear yX1_clear, Cond.code yX1_clear cX1_clear 1 none, Cond.methodLink RX1 15 yJ7_fill_53178, Cond.static yJ7_fill_53178, Cond.initialized RJ7]
def wsL_spare_r3 : List Cond := [Cond.code yJ7_fill_53178 cJ7_fill_53178 4 none, Cond.instanceMethod yX1_join, Cond.selects RX1 yX1_join yX1_join, Cond.code yX1_join cX1_join 3 none, Cond.methodLink RX1 21 yX1_with, Cond.static yX1_with, Cond.code yX1_with cX1_with 2 (some .int), Cond.instanceMethod yX2_rankOf, Cond.initialized RX2, Cond.selects RX2 yX2_rankOf yX2_rankOf, Cond.code yX2_rankOf cX2_rankOf 5 (some .int), Cond.fieldLink RX2 9 "Formationist$PebbleGame" "pebbles" "[I", Cond.fieldLink RX2 15 "Formationist$PebbleGame" "arcs" "[I", Cond.methodLink RX2 21 yJ7_fill_53178, Cond.methodLink RX2 33 yX2_gatherPebbles, Cond.instanceMethod yX2_gatherPebbles, Cond.selects RX2 yX2_gatherPebbles yX2_gatherPebbles, Cond.code yX2_gatherPebbles cX2_gatherPebbles 4 (some .boolean), Cond.methodLink RX2 40 yX2_fetchPebble, Cond.instanceMethod yX2_fetchPebble, Cond.selects RX2 yX2_fetchPebble yX2_fetchPebble, Cond.code yX2_fetchPebble cX2_fetchPebble 4 (some .boolean), Cond.methodLink RX2 43 yX2_findPebble, Cond.instanceMethod yX2_findPebble]
def wsL_spare_r4 : List Cond := [Cond.selects RX2 yX2_findPebble yX2_findPebble, Cond.code yX2_findPebble cX2_findPebble 9 (some .int), Cond.fieldLink RX2 18 "Formationist$PebbleGame" "cameFrom" "[I", Cond.methodLink RX2 53 yX2_noteWay, Cond.instanceMethod yX2_noteWay, Cond.selects RX2 yX2_noteWay yX2_noteWay, Cond.code yX2_noteWay cX2_noteWay 4 none, Cond.methodLink RX2 57 yX2_holderAmong, Cond.instanceMethod yX2_holderAmong, Cond.selects RX2 yX2_holderAmong yX2_holderAmong, Cond.code yX2_holderAmong cX2_holderAmong 3 (some .int), Cond.methodLink RX2 46 yX2_turnArcs, Cond.instanceMethod yX2_turnArcs, Cond.selects RX2 yX2_turnArcs yX2_turnArcs, Cond.code yX2_turnArcs cX2_turnArcs 5 none, Cond.static yX1_without, Cond.code yX1_without cX1_without 2 (some .int), Cond.instanceMethod yX1_cut, Cond.selects RX1 yX1_cut yX1_cut, Cond.code yX1_cut cX1_cut 3 none, Cond.methodLink RX1 25 yX1_without]
def wsL_spare : List Cond := .codeWith yL_spare cL_spare 4 (some .int) [(0, 14, 15, 77)] :: ((wsL_spare_r1 ++ (wsL_spare_r2 ++ (wsL_spare_r3 ++ wsL_spare_r4))) ++ wsX40 ++ wsX10 ++ wsX20 ++ fx_at200.filter goodWord ++ (vx_atS RX4 205 "java/lang/IndexOutOfBoundsException" ["java/lang/RuntimeException", "java/lang/Exception"]).filter goodWord)
def wsL_isFigure_r1 : List Cond := [Cond.methodLink RL 34 yL_links, Cond.static yL_links, Cond.initialized RL, Cond.code yL_links cL_links 5 (some .int), Cond.methodLink RL 19 yL_heard, Cond.static yL_heard, Cond.code yL_heard cL_heard 6 (some .int), Cond.methodLink RL 9 yL_pair, Cond.static yL_pair, Cond.code yL_pair cL_pair 2 (some .int), Cond.methodLink RL 15 yL_square, Cond.static yL_square, Cond.code yL_square cL_square 5 (some .int), Cond.methodLink RL 79 yL_rank, Cond.static yL_rank, Cond.code yL_rank cL_rank 3 (some .int), Cond.methodLink RL 23 yL_ones, Cond.static yL_ones, Cond.code yL_ones cL_ones 3 (some .int), Cond.methodLink RL 27 yL_isFree, Cond.static yL_isFree, Cond.code yL_isFree cL_isFree 4 (some .boolean), Cond.methodLink RL 82 yL_up, Cond.static yL_up]
def wsL_isFigure_r2 : List Cond := [Cond.code yL_up cL_up 3 (some .int), Cond.methodLink RL 31 yL_group, Cond.static yL_group, Cond.code yL_group cL_group 6 (some .int), Cond.methodLink RL 86 yX4_trees, Cond.instanceMethod yX4_trees, Cond.selects RX4 yX4_trees yX4_trees, Cond.initialized RX4, Cond.code yX4_trees cX4_trees 1 (some .long), Cond.fieldLink RX4 80 "Formationist" "treeMatrix" "LFormationist$TreeMatrix;", Cond.fieldLink RX4 54 "Formationist" "net" "LFormationist$Net;", Cond.methodLink RX4 125 yX4_drawNet, Cond.instanceMethod yX4_drawNet, Cond.selects RX4 yX4_drawNet yX4_drawNet, Cond.code yX4_drawNet cX4_drawNet 3 none, Cond.fieldLink RX4 47 "Formationist" "count" "I", Cond.instanceMethod yX1_clear, Cond.initialized RX1, Cond.selects RX1 yX1_clear yX1_clear, Cond.code yX1_clear cX1_clear 1 none, Cond.fieldLink RX1 9 "Formationist$Net" "others" "[I", Cond.methodLink RX1 15 yJ7_fill_53178, Cond.static yJ7_fill_53178, Cond.initialized RJ7]
def wsL_isFigure_r3 : List Cond := [Cond.code yJ7_fill_53178 cJ7_fill_53178 4 none, Cond.methodLink RX4 122 yX4_hears, Cond.instanceMethod yX4_hears, Cond.selects RX4 yX4_hears yX4_hears, Cond.code yX4_hears cX4_hears 3 (some .boolean), Cond.fieldLink RX4 16 "Formationist" "ups" "[Z", Cond.fieldLink RX4 43 "Formationist" "blocked" "LFormationist$Net;", Cond.fieldLink RX4 51 "Formationist" "range" "I", Cond.instanceMethod yX1_joins, Cond.selects RX1 yX1_joins yX1_joins, Cond.code yX1_joins cX1_joins 3 (some .boolean), Cond.methodLink RX1 28 yX1_holds, Cond.static yX1_holds, Cond.code yX1_holds cX1_holds 2 (some .boolean), Cond.methodLink RX4 215 yX4_squareBetween, Cond.instanceMethod yX4_squareBetween, Cond.selects RX4 yX4_squareBetween yX4_squareBetween, Cond.code yX4_squareBetween cX4_squareBetween 5 (some .int), Cond.fieldLink RX4 9 "Formationist" "xs" "[I", Cond.fieldLink RX4 13 "Formationist" "ys" "[I", Cond.instanceMethod yX1_join, Cond.selects RX1 yX1_join yX1_join, Cond.code yX1_join cX1_join 3 none, Cond.methodLink RX1 21 yX1_with]
def wsL_isFigure_r4 : List Cond := [Cond.static yX1_with, Cond.code yX1_with cX1_with 2 (some .int), Cond.methodLink RX4 148 yX4_upSet, Cond.instanceMethod yX4_upSet, Cond.selects RX4 yX4_upSet yX4_upSet, Cond.code yX4_upSet cX4_upSet 3 (some .int), Cond.instanceMethod yX3_treesOf, Cond.initialized RX3, Cond.selects RX3 yX3_treesOf yX3_treesOf, Cond.code yX3_treesOf cX3_treesOf 4 (some .long), Cond.methodLink RX3 16 yJ6_numberOfTrailingZeros_0f7a4, Cond.static yJ6_numberOfTrailingZeros_0f7a4, Cond.initialized RJ6, Cond.code yJ6_numberOfTrailingZeros_0f7a4 cJ6_numberOfTrailingZeros_0f7a4 2 (some .int), Cond.constant RJ6 264 (65536), Cond.static yX1_without, Cond.code yX1_without cX1_without 2 (some .int), Cond.methodLink RX3 28 yX3_fill, Cond.instanceMethod yX3_fill, Cond.selects RX3 yX3_fill yX3_fill, Cond.code yX3_fill cX3_fill 5 (some .int), Cond.fieldLink RX3 11 "Formationist$TreeMatrix" "rows" "[[J", Cond.methodLink RX3 40 yX3_fillRow, Cond.static yX3_fillRow]
def wsL_isFigure_r5 : List Cond := [Cond.code yX3_fillRow cX3_fillRow 6 none, Cond.constantLong RX3 47 (-1), Cond.instanceMethod yX1_degreeOf, Cond.selects RX1 yX1_degreeOf yX1_degreeOf, Cond.code yX1_degreeOf cX1_degreeOf 2 (some .int), Cond.methodLink RX1 32 yJ6_bitCount_0f7a4, Cond.static yJ6_bitCount_0f7a4, Cond.code yJ6_bitCount_0f7a4 cJ6_bitCount_0f7a4 1 (some .int), Cond.constant RJ6 265 (1431655765), Cond.constant RJ6 266 (858993459), Cond.constant RJ6 267 (252645135), Cond.methodLink RX3 32 yX3_determinant, Cond.instanceMethod yX3_determinant, Cond.selects RX3 yX3_determinant yX3_determinant, Cond.code yX3_determinant cX3_determinant 11 (some .long), Cond.methodLink RL 90 yL_trees, Cond.static yL_trees, Cond.code yL_trees cL_trees 6 (some .long), Cond.methodLink RL 93 yX4_rank, Cond.instanceMethod yX4_rank, Cond.selects RX4 yX4_rank yX4_rank, Cond.code yX4_rank cX4_rank 1 (some .int), Cond.fieldLink RX4 66 "Formationist" "pebbleGame" "LFormationist$PebbleGame;", Cond.instanceMethod yX2_rankOf]
def wsL_isFigure_r6 : List Cond := [Cond.initialized RX2, Cond.selects RX2 yX2_rankOf yX2_rankOf, Cond.code yX2_rankOf cX2_rankOf 5 (some .int), Cond.fieldLink RX2 9 "Formationist$PebbleGame" "pebbles" "[I", Cond.fieldLink RX2 15 "Formationist$PebbleGame" "arcs" "[I", Cond.methodLink RX2 21 yJ7_fill_53178, Cond.methodLink RX2 33 yX2_gatherPebbles, Cond.instanceMethod yX2_gatherPebbles, Cond.selects RX2 yX2_gatherPebbles yX2_gatherPebbles, Cond.code yX2_gatherPebbles cX2_gatherPebbles 4 (some .boolean), Cond.methodLink RX2 40 yX2_fetchPebble, Cond.instanceMethod yX2_fetchPebble, Cond.selects RX2 yX2_fetchPebble yX2_fetchPebble, Cond.code yX2_fetchPebble cX2_fetchPebble 4 (some .boolean), Cond.methodLink RX2 43 yX2_findPebble, Cond.instanceMethod yX2_findPebble, Cond.selects RX2 yX2_findPebble yX2_findPebble, Cond.code yX2_findPebble cX2_findPebble 9 (some .int), Cond.fieldLink RX2 18 "Formationist$PebbleGame" "cameFrom" "[I", Cond.methodLink RX2 53 yX2_noteWay, Cond.instanceMethod yX2_noteWay, Cond.selects RX2 yX2_noteWay yX2_noteWay, Cond.code yX2_noteWay cX2_noteWay 4 none, Cond.methodLink RX2 57 yX2_holderAmong]
def wsL_isFigure_r7 : List Cond := [Cond.instanceMethod yX2_holderAmong, Cond.selects RX2 yX2_holderAmong yX2_holderAmong, Cond.code yX2_holderAmong cX2_holderAmong 3 (some .int), Cond.methodLink RX2 46 yX2_turnArcs, Cond.instanceMethod yX2_turnArcs, Cond.selects RX2 yX2_turnArcs yX2_turnArcs, Cond.code yX2_turnArcs cX2_turnArcs 5 none, Cond.methodLink RL 95 yX4_rankByCounting, Cond.instanceMethod yX4_rankByCounting, Cond.selects RX4 yX4_rankByCounting yX4_rankByCounting, Cond.code yX4_rankByCounting cX4_rankByCounting 1 (some .int), Cond.fieldLink RX4 73 "Formationist" "linkCounts" "LFormationist$LinkCounts;", Cond.instanceMethod yX0_rankOf, Cond.initialized RX0, Cond.selects RX0 yX0_rankOf yX0_rankOf, Cond.code yX0_rankOf cX0_rankOf 6 (some .int), Cond.fieldLink RX0 11 "Formationist$LinkCounts" "linksWithin" "[I", Cond.methodLink RX0 15 yJ7_fill_53178, Cond.methodLink RX0 31 yX0_leavesFree, Cond.instanceMethod yX0_leavesFree, Cond.selects RX0 yX0_leavesFree yX0_leavesFree, Cond.code yX0_leavesFree cX0_leavesFree 4 (some .boolean), Cond.methodLink RX0 39 yJ6_bitCount_0f7a4, Cond.methodLink RX0 35 yX0_keepLink]
def wsL_isFigure_r8 : List Cond := [Cond.instanceMethod yX0_keepLink, Cond.selects RX0 yX0_keepLink yX0_keepLink, Cond.code yX0_keepLink cX0_keepLink 3 none, Cond.methodLink RL 98 yX4_isRigid, Cond.instanceMethod yX4_isRigid, Cond.selects RX4 yX4_isRigid yX4_isRigid, Cond.code yX4_isRigid cX4_isRigid 2 (some .boolean), Cond.methodLink RX4 191 yJ6_bitCount_0f7a4, Cond.methodLink RX4 136 yX4_countGroups, Cond.instanceMethod yX4_countGroups, Cond.selects RX4 yX4_countGroups yX4_countGroups, Cond.code yX4_countGroups cX4_countGroups 4 (some .int), Cond.instanceMethod yX1_groupOf, Cond.selects RX1 yX1_groupOf yX1_groupOf, Cond.code yX1_groupOf cX1_groupOf 6 (some .int), Cond.methodLink RL 102 yL_spare, Cond.static yL_spare, Cond.codeWith yL_spare cL_spare 4 (some .int) [(0, 14, 15, 77)], Cond.classLink RL 77 "java/util/NoSuchElementException", Cond.methodLink RL 74 yX4_isSpare, Cond.instanceMethod yX4_isSpare, Cond.selects RX4 yX4_isSpare yX4_isSpare, Cond.code yX4_isSpare cX4_isSpare 4 (some .boolean), Cond.classLink RX4 196 "java/util/NoSuchElementException"]
def wsL_isFigure_r9 : List Cond := [Cond.initialized "java/util/NoSuchElementException", Cond.methodLink RX4 101 yX4_requireMember, Cond.instanceMethod yX4_requireMember, Cond.selects RX4 yX4_requireMember yX4_requireMember, Cond.code yX4_requireMember cX4_requireMember 2 none, Cond.classLink RX4 201 "java/lang/IndexOutOfBoundsException", Cond.initialized "java/lang/IndexOutOfBoundsException", Cond.instanceMethod yX1_cut, Cond.selects RX1 yX1_cut yX1_cut, Cond.code yX1_cut cX1_cut 3 none, Cond.methodLink RX1 25 yX1_without]
def wsL_isFigure : List Cond := .code yL_isFigure cL_isFigure 13 (some .boolean) :: ((wsL_isFigure_r1 ++ (wsL_isFigure_r2 ++ (wsL_isFigure_r3 ++ (wsL_isFigure_r4 ++ (wsL_isFigure_r5 ++ (wsL_isFigure_r6 ++ (wsL_isFigure_r7 ++ (wsL_isFigure_r8 ++ wsL_isFigure_r9)))))))) ++ wsX40 ++ wsX10 ++ wsX30 ++ wsX20 ++ wsX00 ++ fx_at200.filter goodWord ++ (vx_atS RX4 205 "java/lang/IndexOutOfBoundsException" ["java/lang/RuntimeException", "java/lang/Exception"]).filter goodWord)
def wsL_error : List Cond := .code yL_error cL_error 7 (some .int) :: ([.methodLink RL 19 yL_heard, .static yL_heard, .initialized RL, .code yL_heard cL_heard 6 (some .int), .methodLink RL 9 yL_pair, .static yL_pair, .code yL_pair cL_pair 2 (some .int), .methodLink RL 15 yL_square, .static yL_square, .code yL_square cL_square 5 (some .int)])
def wsL_agreed : List Cond := .code yL_agreed cL_agreed 10 (some .int) :: ([.arrayClass .int, .methodLink RL 19 yL_heard, .static yL_heard, .initialized RL, .code yL_heard cL_heard 6 (some .int), .methodLink RL 9 yL_pair, .static yL_pair, .code yL_pair cL_pair 2 (some .int), .methodLink RL 15 yL_square, .static yL_square, .code yL_square cL_square 5 (some .int), .methodLink RL 23 yL_ones, .static yL_ones, .code yL_ones cL_ones 3 (some .int)])
def wsL_spread : List Cond := .code yL_spread cL_spread 10 (some .int) :: ([.arrayClass .int, .methodLink RL 19 yL_heard, .static yL_heard, .initialized RL, .code yL_heard cL_heard 6 (some .int), .methodLink RL 9 yL_pair, .static yL_pair, .code yL_pair cL_pair 2 (some .int), .methodLink RL 15 yL_square, .static yL_square, .code yL_square cL_square 5 (some .int)])
def wsL_moved : List Cond := .code yL_moved cL_moved 7 (some .int) :: ([.constantLong RL 106 (1000000), .constantLong RL 108 (50), .constantLong RL 110 (-50), .constantLong RL 112 (1000), .constantLong RL 114 (-1000)])
def wsL_settle : List Cond := .code yL_settle cL_settle 9 none :: ([.arrayClass .long, .methodLink RL 19 yL_heard, .static yL_heard, .initialized RL, .code yL_heard cL_heard 6 (some .int), .methodLink RL 9 yL_pair, .static yL_pair, .code yL_pair cL_pair 2 (some .int), .methodLink RL 15 yL_square, .static yL_square, .code yL_square cL_square 5 (some .int), .methodLink RL 116 yL_moved, .static yL_moved, .code yL_moved cL_moved 7 (some .int), .constantLong RL 106 (1000000), .constantLong RL 108 (50), .constantLong RL 110 (-50), .constantLong RL 112 (1000), .constantLong RL 114 (-1000)])
def wsL_acts_r1 : List Cond := [Cond.methodLink RL 120 yX4_move, Cond.instanceMethod yX4_move, Cond.selects RX4 yX4_move yX4_move, Cond.initialized RX4, Cond.code yX4_move cX4_move 4 none, Cond.fieldLink RX4 9 "Formationist" "xs" "[I", Cond.fieldLink RX4 13 "Formationist" "ys" "[I", Cond.methodLink RX4 101 yX4_requireMember, Cond.instanceMethod yX4_requireMember, Cond.selects RX4 yX4_requireMember yX4_requireMember, Cond.code yX4_requireMember cX4_requireMember 2 none, Cond.classLink RX4 201 "java/lang/IndexOutOfBoundsException", Cond.initialized "java/lang/IndexOutOfBoundsException", Cond.fieldLink RX4 47 "Formationist" "count" "I", Cond.methodLink RX4 90 yX4_requirePlace, Cond.static yX4_requirePlace, Cond.code yX4_requirePlace cX4_requirePlace 2 none, Cond.methodLink RX4 105 yX4_requireWithin, Cond.static yX4_requireWithin, Cond.code yX4_requireWithin cX4_requireWithin 3 none, Cond.classLink RX4 206 "java/lang/IllegalArgumentException", Cond.initialized "java/lang/IllegalArgumentException", Cond.methodLink RL 124 yX4_toggle, Cond.instanceMethod yX4_toggle]
def wsL_acts_r2 : List Cond := [Cond.selects RX4 yX4_toggle yX4_toggle, Cond.code yX4_toggle cX4_toggle 2 (some .boolean), Cond.fieldLink RX4 16 "Formationist" "ups" "[Z", Cond.methodLink RL 127 yX4_setPriority, Cond.instanceMethod yX4_setPriority, Cond.selects RX4 yX4_setPriority yX4_setPriority, Cond.code yX4_setPriority cX4_setPriority 4 (some .int), Cond.fieldLink RX4 20 "Formationist" "priorities" "[I", Cond.methodLink RL 130 yX4_setRange, Cond.instanceMethod yX4_setRange, Cond.selects RX4 yX4_setRange yX4_setRange, Cond.code yX4_setRange cX4_setRange 3 (some .int), Cond.fieldLink RX4 51 "Formationist" "range" "I", Cond.methodLink RL 9 yL_pair, Cond.static yL_pair, Cond.initialized RL, Cond.code yL_pair cL_pair 2 (some .int), Cond.methodLink RL 133 yX4_block, Cond.instanceMethod yX4_block, Cond.selects RX4 yX4_block yX4_block, Cond.code yX4_block cX4_block 3 (some .boolean), Cond.fieldLink RX4 43 "Formationist" "blocked" "LFormationist$Net;", Cond.methodLink RX4 109 yX4_requireUnlike, Cond.instanceMethod yX4_requireUnlike]
def wsL_acts_r3 : List Cond := [Cond.selects RX4 yX4_requireUnlike yX4_requireUnlike, Cond.code yX4_requireUnlike cX4_requireUnlike 3 none, Cond.instanceMethod yX1_joins, Cond.initialized RX1, Cond.selects RX1 yX1_joins yX1_joins, Cond.code yX1_joins cX1_joins 3 (some .boolean), Cond.fieldLink RX1 9 "Formationist$Net" "others" "[I", Cond.methodLink RX1 28 yX1_holds, Cond.static yX1_holds, Cond.code yX1_holds cX1_holds 2 (some .boolean), Cond.instanceMethod yX1_cut, Cond.selects RX1 yX1_cut yX1_cut, Cond.code yX1_cut cX1_cut 3 none, Cond.methodLink RX1 25 yX1_without, Cond.static yX1_without, Cond.code yX1_without cX1_without 2 (some .int), Cond.instanceMethod yX1_join, Cond.selects RX1 yX1_join yX1_join, Cond.code yX1_join cX1_join 3 none, Cond.methodLink RX1 21 yX1_with, Cond.static yX1_with, Cond.code yX1_with cX1_with 2 (some .int), Cond.methodLink RL 136 yX4_setEstimate, Cond.instanceMethod yX4_setEstimate]
def wsL_acts_r4 : List Cond := [Cond.selects RX4 yX4_setEstimate yX4_setEstimate, Cond.code yX4_setEstimate cX4_setEstimate 4 (some .int), Cond.fieldLink RX4 23 "Formationist" "estimates" "[I", Cond.methodLink RX4 155 yX4_requireValue, Cond.static yX4_requireValue, Cond.code yX4_requireValue cX4_requireValue 1 none, Cond.constant RX4 213 (-1000000), Cond.constant RX4 214 (1000000), Cond.methodLink RL 139 yX4_setSum, Cond.instanceMethod yX4_setSum, Cond.selects RX4 yX4_setSum yX4_setSum, Cond.code yX4_setSum cX4_setSum 4 (some .int), Cond.fieldLink RX4 26 "Formationist" "sums" "[I", Cond.methodLink RL 142 yX4_want, Cond.instanceMethod yX4_want, Cond.selects RX4 yX4_want yX4_want, Cond.code yX4_want cX4_want 5 (some .int), Cond.constant RX4 170 (8000000), Cond.fieldLink RX4 37 "Formationist" "wantedSquares" "[[I", Cond.methodLink RL 146 yL_agreed, Cond.static yL_agreed, Cond.code yL_agreed cL_agreed 10 (some .int), Cond.arrayClass .int, Cond.methodLink RL 19 yL_heard]
def wsL_acts_r5 : List Cond := [Cond.static yL_heard, Cond.code yL_heard cL_heard 6 (some .int), Cond.methodLink RL 15 yL_square, Cond.static yL_square, Cond.code yL_square cL_square 5 (some .int), Cond.methodLink RL 23 yL_ones, Cond.static yL_ones, Cond.code yL_ones cL_ones 3 (some .int), Cond.methodLink RL 149 yL_spread, Cond.static yL_spread, Cond.code yL_spread cL_spread 10 (some .int), Cond.methodLink RL 152 yL_settle, Cond.static yL_settle, Cond.code yL_settle cL_settle 9 none, Cond.arrayClass .long, Cond.methodLink RL 116 yL_moved, Cond.static yL_moved, Cond.code yL_moved cL_moved 7 (some .int), Cond.constantLong RL 106 (1000000), Cond.constantLong RL 108 (50), Cond.constantLong RL 110 (-50), Cond.constantLong RL 112 (1000), Cond.constantLong RL 114 (-1000), Cond.methodLink RL 156 yX4_agree]
def wsL_acts_r6 : List Cond := [Cond.instanceMethod yX4_agree, Cond.selects RX4 yX4_agree yX4_agree, Cond.code yX4_agree cX4_agree 3 (some .int), Cond.methodLink RX4 158 yX4_requireRounds, Cond.static yX4_requireRounds, Cond.code yX4_requireRounds cX4_requireRounds 1 none, Cond.methodLink RX4 125 yX4_drawNet, Cond.instanceMethod yX4_drawNet, Cond.selects RX4 yX4_drawNet yX4_drawNet, Cond.code yX4_drawNet cX4_drawNet 3 none, Cond.fieldLink RX4 54 "Formationist" "net" "LFormationist$Net;", Cond.instanceMethod yX1_clear, Cond.selects RX1 yX1_clear yX1_clear, Cond.code yX1_clear cX1_clear 1 none, Cond.methodLink RX1 15 yJ7_fill_53178, Cond.static yJ7_fill_53178, Cond.initialized RJ7, Cond.code yJ7_fill_53178 cJ7_fill_53178 4 none, Cond.methodLink RX4 122 yX4_hears, Cond.instanceMethod yX4_hears, Cond.selects RX4 yX4_hears yX4_hears, Cond.code yX4_hears cX4_hears 3 (some .boolean), Cond.methodLink RX4 215 yX4_squareBetween, Cond.instanceMethod yX4_squareBetween]
def wsL_acts_r7 : List Cond := [Cond.selects RX4 yX4_squareBetween yX4_squareBetween, Cond.code yX4_squareBetween cX4_squareBetween 5 (some .int), Cond.methodLink RX4 161 yX4_exchangeEstimates, Cond.instanceMethod yX4_exchangeEstimates, Cond.selects RX4 yX4_exchangeEstimates yX4_exchangeEstimates, Cond.code yX4_exchangeEstimates cX4_exchangeEstimates 4 none, Cond.fieldLink RX4 57 "Formationist" "changes" "[I", Cond.methodLink RX4 84 yJ7_fill_53178, Cond.methodLink RX4 224 yX4_flowBetween, Cond.instanceMethod yX4_flowBetween, Cond.selects RX4 yX4_flowBetween yX4_flowBetween, Cond.code yX4_flowBetween cX4_flowBetween 4 (some .int), Cond.methodLink RX4 231 Lib.Math.max.name, Cond.static Lib.Math.max.name, Cond.initialized "java/lang/Math", Cond.code Lib.Math.max.name Lib.Math.max.code 2 (some .int), Cond.instanceMethod yX1_degreeOf, Cond.selects RX1 yX1_degreeOf yX1_degreeOf, Cond.code yX1_degreeOf cX1_degreeOf 2 (some .int), Cond.methodLink RX1 32 yJ6_bitCount_0f7a4, Cond.static yJ6_bitCount_0f7a4, Cond.initialized RJ6, Cond.code yJ6_bitCount_0f7a4 cJ6_bitCount_0f7a4 1 (some .int), Cond.constant RJ6 265 (1431655765)]
def wsL_acts_r8 : List Cond := [Cond.constant RJ6 266 (858993459), Cond.constant RJ6 267 (252645135), Cond.methodLink RX4 227 yX4_addChanges, Cond.instanceMethod yX4_addChanges, Cond.selects RX4 yX4_addChanges yX4_addChanges, Cond.code yX4_addChanges cX4_addChanges 4 none, Cond.methodLink RX4 164 yX4_spanOfEstimates, Cond.instanceMethod yX4_spanOfEstimates, Cond.selects RX4 yX4_spanOfEstimates yX4_spanOfEstimates, Cond.code yX4_spanOfEstimates cX4_spanOfEstimates 4 (some .int), Cond.methodLink RX4 234 Lib.Math.min.name, Cond.static Lib.Math.min.name, Cond.code Lib.Math.min.name Lib.Math.min.code 2 (some .int), Cond.methodLink RL 159 yX4_spread, Cond.instanceMethod yX4_spread, Cond.selects RX4 yX4_spread yX4_spread, Cond.code yX4_spread cX4_spread 4 (some .int), Cond.methodLink RX4 167 yX4_handHalves, Cond.instanceMethod yX4_handHalves, Cond.selects RX4 yX4_handHalves yX4_handHalves, Cond.code yX4_handHalves cX4_handHalves 4 (some .int), Cond.fieldLink RX4 60 "Formationist" "moreChanges" "[I", Cond.fieldLink RX4 29 "Formationist" "weights" "[I", Cond.fieldLink RX4 32 "Formationist" "lastReceivers" "[I"]
def wsL_acts_r9 : List Cond := [Cond.methodLink RX4 237 yX4_nextReceiver, Cond.instanceMethod yX4_nextReceiver, Cond.selects RX4 yX4_nextReceiver yX4_nextReceiver, Cond.code yX4_nextReceiver cX4_nextReceiver 4 (some .int), Cond.methodLink RX4 240 yX4_handOver, Cond.static yX4_handOver, Cond.code yX4_handOver cX4_handOver 4 none, Cond.methodLink RL 161 yX4_settle, Cond.instanceMethod yX4_settle, Cond.selects RX4 yX4_settle yX4_settle, Cond.code yX4_settle cX4_settle 3 (some .int), Cond.methodLink RX4 180 yX4_stepTogether, Cond.instanceMethod yX4_stepTogether, Cond.selects RX4 yX4_stepTogether yX4_stepTogether, Cond.code yX4_stepTogether cX4_stepTogether 2 none, Cond.methodLink RX4 244 yX4_stepOf, Cond.instanceMethod yX4_stepOf, Cond.selects RX4 yX4_stepOf yX4_stepOf, Cond.code yX4_stepOf cX4_stepOf 8 (some .int), Cond.constantLong RX4 251 (1000000), Cond.constantLong RX4 253 (-50), Cond.constantLong RX4 255 (50), Cond.methodLink RX4 257 Lib.MathLoose.min_long.x, Cond.static Lib.MathLoose.min_long.x]
def wsL_acts_r10 : List Cond := [Cond.code Lib.MathLoose.min_long.x Lib.MathLoose.min_long.code 4 (some .long), Cond.methodLink RX4 260 Lib.MathLoose.max_long.x, Cond.static Lib.MathLoose.max_long.x, Cond.code Lib.MathLoose.max_long.x Lib.MathLoose.max_long.code 4 (some .long), Cond.methodLink RX4 171 yX4_excessOf, Cond.instanceMethod yX4_excessOf, Cond.selects RX4 yX4_excessOf yX4_excessOf, Cond.code yX4_excessOf cX4_excessOf 3 (some .int), Cond.methodLink RX4 248 yX4_keptOnPlane, Cond.static yX4_keptOnPlane, Cond.code yX4_keptOnPlane cX4_keptOnPlane 1 (some .int), Cond.methodLink RX4 183 yX4_error, Cond.instanceMethod yX4_error, Cond.selects RX4 yX4_error yX4_error, Cond.code yX4_error cX4_error 4 (some .int), Cond.methodLink RX4 175 Lib.Math.abs.name, Cond.static Lib.Math.abs.name, Cond.code Lib.Math.abs.name Lib.Math.abs.code 1 (some .int), Cond.methodLink RL 163 yL_error, Cond.static yL_error, Cond.code yL_error cL_error 7 (some .int)]
def wsL_acts : List Cond := .code yL_acts cL_acts 12 (some .boolean) :: ((wsL_acts_r1 ++ (wsL_acts_r2 ++ (wsL_acts_r3 ++ (wsL_acts_r4 ++ (wsL_acts_r5 ++ (wsL_acts_r6 ++ (wsL_acts_r7 ++ (wsL_acts_r8 ++ (wsL_acts_r9 ++ wsL_acts_r10))))))))) ++ wsX40 ++ wsX10 ++ (vx_atS RX4 205 "java/lang/IndexOutOfBoundsException" ["java/lang/RuntimeException", "java/lang/Exception"]).filter goodWord ++ (vx_atS RX4 210 "java/lang/IllegalArgumentException" ["java/lang/RuntimeException", "java/lang/Exception"]).filter goodWord)
def wsL_holds_r1 : List Cond := [Cond.classLink RL 39 RX4, Cond.instantiable RX4 18, Cond.initialized RX4, Cond.arrayClass .int, Cond.constant RL 171 (1000000), Cond.methodLink RL 167 yX4_init, Cond.instanceMethod yX4_init, Cond.code yX4_init cX4_init 2 none, Cond.methodLink RX4 1 objectInit, Cond.instanceMethod objectInit, Cond.code objectInit ⟨#[0xb1]⟩ 1 none, Cond.fieldLink RX4 9 "Formationist" "xs" "[I", Cond.fieldLink RX4 13 "Formationist" "ys" "[I", Cond.arrayClass .boolean, Cond.fieldLink RX4 16 "Formationist" "ups" "[Z", Cond.fieldLink RX4 20 "Formationist" "priorities" "[I", Cond.fieldLink RX4 23 "Formationist" "estimates" "[I", Cond.fieldLink RX4 26 "Formationist" "sums" "[I", Cond.fieldLink RX4 29 "Formationist" "weights" "[I", Cond.fieldLink RX4 32 "Formationist" "lastReceivers" "[I", Cond.classLink RX4 35 "[[I", Cond.fieldLink RX4 37 "Formationist" "wantedSquares" "[[I", Cond.classLink RX4 40 RX1, Cond.instantiable RX1 1]
def wsL_holds_r2 : List Cond := [Cond.initialized RX1, Cond.fieldLink RX4 43 "Formationist" "blocked" "LFormationist$Net;", Cond.fieldLink RX4 47 "Formationist" "count" "I", Cond.fieldLink RX4 51 "Formationist" "range" "I", Cond.fieldLink RX4 54 "Formationist" "net" "LFormationist$Net;", Cond.fieldLink RX4 57 "Formationist" "changes" "[I", Cond.fieldLink RX4 60 "Formationist" "moreChanges" "[I", Cond.classLink RX4 63 RX2, Cond.instantiable RX2 3, Cond.initialized RX2, Cond.fieldLink RX4 66 "Formationist" "pebbleGame" "LFormationist$PebbleGame;", Cond.classLink RX4 70 RX0, Cond.instantiable RX0 1, Cond.initialized RX0, Cond.fieldLink RX4 73 "Formationist" "linkCounts" "LFormationist$LinkCounts;", Cond.classLink RX4 77 RX3, Cond.instantiable RX3 1, Cond.initialized RX3, Cond.fieldLink RX4 80 "Formationist" "treeMatrix" "LFormationist$TreeMatrix;", Cond.instanceMethod yX1_init, Cond.code yX1_init cX1_init 1 none, Cond.methodLink RX1 3 objectInit, Cond.fieldLink RX1 9 "Formationist$Net" "others" "[I", Cond.instanceMethod yX2_init]
def wsL_holds_r3 : List Cond := [Cond.code yX2_init cX2_init 1 none, Cond.methodLink RX2 3 objectInit, Cond.fieldLink RX2 9 "Formationist$PebbleGame" "pebbles" "[I", Cond.fieldLink RX2 15 "Formationist$PebbleGame" "arcs" "[I", Cond.fieldLink RX2 18 "Formationist$PebbleGame" "cameFrom" "[I", Cond.instanceMethod yX0_init, Cond.code yX0_init cX0_init 1 none, Cond.methodLink RX0 3 objectInit, Cond.fieldLink RX0 11 "Formationist$LinkCounts" "linksWithin" "[I", Cond.instanceMethod yX3_init, Cond.code yX3_init cX3_init 1 none, Cond.methodLink RX3 3 objectInit, Cond.classLink RX3 9 "[[J", Cond.arrayClass .long, Cond.fieldLink RX3 11 "Formationist$TreeMatrix" "rows" "[[J", Cond.methodLink RX4 84 yJ7_fill_53178, Cond.static yJ7_fill_53178, Cond.initialized RJ7, Cond.code yJ7_fill_53178 cJ7_fill_53178 4 none, Cond.methodLink RL 156 yX4_agree, Cond.instanceMethod yX4_agree, Cond.selects RX4 yX4_agree yX4_agree, Cond.code yX4_agree cX4_agree 3 (some .int), Cond.methodLink RX4 158 yX4_requireRounds]
def wsL_holds_r4 : List Cond := [Cond.static yX4_requireRounds, Cond.code yX4_requireRounds cX4_requireRounds 1 none, Cond.methodLink RX4 105 yX4_requireWithin, Cond.static yX4_requireWithin, Cond.code yX4_requireWithin cX4_requireWithin 3 none, Cond.classLink RX4 206 "java/lang/IllegalArgumentException", Cond.initialized "java/lang/IllegalArgumentException", Cond.methodLink RX4 125 yX4_drawNet, Cond.instanceMethod yX4_drawNet, Cond.selects RX4 yX4_drawNet yX4_drawNet, Cond.code yX4_drawNet cX4_drawNet 3 none, Cond.instanceMethod yX1_clear, Cond.selects RX1 yX1_clear yX1_clear, Cond.code yX1_clear cX1_clear 1 none, Cond.methodLink RX1 15 yJ7_fill_53178, Cond.methodLink RX4 122 yX4_hears, Cond.instanceMethod yX4_hears, Cond.selects RX4 yX4_hears yX4_hears, Cond.code yX4_hears cX4_hears 3 (some .boolean), Cond.instanceMethod yX1_joins, Cond.selects RX1 yX1_joins yX1_joins, Cond.code yX1_joins cX1_joins 3 (some .boolean), Cond.methodLink RX1 28 yX1_holds, Cond.static yX1_holds]
def wsL_holds_r5 : List Cond := [Cond.code yX1_holds cX1_holds 2 (some .boolean), Cond.methodLink RX4 215 yX4_squareBetween, Cond.instanceMethod yX4_squareBetween, Cond.selects RX4 yX4_squareBetween yX4_squareBetween, Cond.code yX4_squareBetween cX4_squareBetween 5 (some .int), Cond.instanceMethod yX1_join, Cond.selects RX1 yX1_join yX1_join, Cond.code yX1_join cX1_join 3 none, Cond.methodLink RX1 21 yX1_with, Cond.static yX1_with, Cond.code yX1_with cX1_with 2 (some .int), Cond.methodLink RX4 161 yX4_exchangeEstimates, Cond.instanceMethod yX4_exchangeEstimates, Cond.selects RX4 yX4_exchangeEstimates yX4_exchangeEstimates, Cond.code yX4_exchangeEstimates cX4_exchangeEstimates 4 none, Cond.methodLink RX4 224 yX4_flowBetween, Cond.instanceMethod yX4_flowBetween, Cond.selects RX4 yX4_flowBetween yX4_flowBetween, Cond.code yX4_flowBetween cX4_flowBetween 4 (some .int), Cond.methodLink RX4 231 Lib.Math.max.name, Cond.static Lib.Math.max.name, Cond.initialized "java/lang/Math", Cond.code Lib.Math.max.name Lib.Math.max.code 2 (some .int), Cond.instanceMethod yX1_degreeOf]
def wsL_holds_r6 : List Cond := [Cond.selects RX1 yX1_degreeOf yX1_degreeOf, Cond.code yX1_degreeOf cX1_degreeOf 2 (some .int), Cond.methodLink RX1 32 yJ6_bitCount_0f7a4, Cond.static yJ6_bitCount_0f7a4, Cond.initialized RJ6, Cond.code yJ6_bitCount_0f7a4 cJ6_bitCount_0f7a4 1 (some .int), Cond.constant RJ6 265 (1431655765), Cond.constant RJ6 266 (858993459), Cond.constant RJ6 267 (252645135), Cond.methodLink RX4 227 yX4_addChanges, Cond.instanceMethod yX4_addChanges, Cond.selects RX4 yX4_addChanges yX4_addChanges, Cond.code yX4_addChanges cX4_addChanges 4 none, Cond.methodLink RX4 164 yX4_spanOfEstimates, Cond.instanceMethod yX4_spanOfEstimates, Cond.selects RX4 yX4_spanOfEstimates yX4_spanOfEstimates, Cond.code yX4_spanOfEstimates cX4_spanOfEstimates 4 (some .int), Cond.methodLink RX4 234 Lib.Math.min.name, Cond.static Lib.Math.min.name, Cond.code Lib.Math.min.name Lib.Math.min.code 2 (some .int), Cond.methodLink RL 159 yX4_spread, Cond.instanceMethod yX4_spread, Cond.selects RX4 yX4_spread yX4_spread, Cond.code yX4_spread cX4_spread 4 (some .int)]
def wsL_holds_r7 : List Cond := [Cond.methodLink RX4 167 yX4_handHalves, Cond.instanceMethod yX4_handHalves, Cond.selects RX4 yX4_handHalves yX4_handHalves, Cond.code yX4_handHalves cX4_handHalves 4 (some .int), Cond.methodLink RX4 237 yX4_nextReceiver, Cond.instanceMethod yX4_nextReceiver, Cond.selects RX4 yX4_nextReceiver yX4_nextReceiver, Cond.code yX4_nextReceiver cX4_nextReceiver 4 (some .int), Cond.methodLink RX4 240 yX4_handOver, Cond.static yX4_handOver, Cond.code yX4_handOver cX4_handOver 4 none, Cond.methodLink RL 86 yX4_trees, Cond.instanceMethod yX4_trees, Cond.selects RX4 yX4_trees yX4_trees, Cond.code yX4_trees cX4_trees 1 (some .long), Cond.methodLink RX4 148 yX4_upSet, Cond.instanceMethod yX4_upSet, Cond.selects RX4 yX4_upSet yX4_upSet, Cond.code yX4_upSet cX4_upSet 3 (some .int), Cond.instanceMethod yX3_treesOf, Cond.selects RX3 yX3_treesOf yX3_treesOf, Cond.code yX3_treesOf cX3_treesOf 4 (some .long), Cond.methodLink RX3 16 yJ6_numberOfTrailingZeros_0f7a4, Cond.static yJ6_numberOfTrailingZeros_0f7a4]
def wsL_holds_r8 : List Cond := [Cond.code yJ6_numberOfTrailingZeros_0f7a4 cJ6_numberOfTrailingZeros_0f7a4 2 (some .int), Cond.constant RJ6 264 (65536), Cond.static yX1_without, Cond.code yX1_without cX1_without 2 (some .int), Cond.methodLink RX3 28 yX3_fill, Cond.instanceMethod yX3_fill, Cond.selects RX3 yX3_fill yX3_fill, Cond.code yX3_fill cX3_fill 5 (some .int), Cond.methodLink RX3 40 yX3_fillRow, Cond.static yX3_fillRow, Cond.code yX3_fillRow cX3_fillRow 6 none, Cond.constantLong RX3 47 (-1), Cond.methodLink RX3 32 yX3_determinant, Cond.instanceMethod yX3_determinant, Cond.selects RX3 yX3_determinant yX3_determinant, Cond.code yX3_determinant cX3_determinant 11 (some .long), Cond.methodLink RL 98 yX4_isRigid, Cond.instanceMethod yX4_isRigid, Cond.selects RX4 yX4_isRigid yX4_isRigid, Cond.code yX4_isRigid cX4_isRigid 2 (some .boolean), Cond.methodLink RX4 191 yJ6_bitCount_0f7a4, Cond.methodLink RX4 136 yX4_countGroups, Cond.instanceMethod yX4_countGroups, Cond.selects RX4 yX4_countGroups yX4_countGroups]
def wsL_holds_r9 : List Cond := [Cond.code yX4_countGroups cX4_countGroups 4 (some .int), Cond.instanceMethod yX1_groupOf, Cond.selects RX1 yX1_groupOf yX1_groupOf, Cond.code yX1_groupOf cX1_groupOf 6 (some .int), Cond.instanceMethod yX2_rankOf, Cond.selects RX2 yX2_rankOf yX2_rankOf, Cond.code yX2_rankOf cX2_rankOf 5 (some .int), Cond.methodLink RX2 21 yJ7_fill_53178, Cond.methodLink RX2 33 yX2_gatherPebbles, Cond.instanceMethod yX2_gatherPebbles, Cond.selects RX2 yX2_gatherPebbles yX2_gatherPebbles, Cond.code yX2_gatherPebbles cX2_gatherPebbles 4 (some .boolean), Cond.methodLink RX2 40 yX2_fetchPebble, Cond.instanceMethod yX2_fetchPebble, Cond.selects RX2 yX2_fetchPebble yX2_fetchPebble, Cond.code yX2_fetchPebble cX2_fetchPebble 4 (some .boolean), Cond.methodLink RX2 43 yX2_findPebble, Cond.instanceMethod yX2_findPebble, Cond.selects RX2 yX2_findPebble yX2_findPebble, Cond.code yX2_findPebble cX2_findPebble 9 (some .int), Cond.methodLink RX2 53 yX2_noteWay, Cond.instanceMethod yX2_noteWay, Cond.selects RX2 yX2_noteWay yX2_noteWay, Cond.code yX2_noteWay cX2_noteWay 4 none]
def wsL_holds_r10 : List Cond := [Cond.methodLink RX2 57 yX2_holderAmong, Cond.instanceMethod yX2_holderAmong, Cond.selects RX2 yX2_holderAmong yX2_holderAmong, Cond.code yX2_holderAmong cX2_holderAmong 3 (some .int), Cond.methodLink RX2 46 yX2_turnArcs, Cond.instanceMethod yX2_turnArcs, Cond.selects RX2 yX2_turnArcs yX2_turnArcs, Cond.code yX2_turnArcs cX2_turnArcs 5 none, Cond.methodLink RL 168 yL_from, Cond.static yL_from, Cond.initialized RL, Cond.code yL_from cL_from 4 (some .int), Cond.constant RL 7 (110969), Cond.constant RL 8 (2147483647), Cond.methodLink RL 172 yX4_addMember, Cond.instanceMethod yX4_addMember, Cond.selects RX4 yX4_addMember yX4_addMember, Cond.code yX4_addMember cX4_addMember 4 (some .int), Cond.classLink RX4 94 "java/lang/IllegalStateException", Cond.initialized "java/lang/IllegalStateException", Cond.methodLink RX4 90 yX4_requirePlace, Cond.static yX4_requirePlace, Cond.code yX4_requirePlace cX4_requirePlace 2 none, Cond.methodLink RL 175 yL_acts]
def wsL_holds_r11 : List Cond := [Cond.static yL_acts, Cond.code yL_acts cL_acts 12 (some .boolean), Cond.methodLink RL 120 yX4_move, Cond.instanceMethod yX4_move, Cond.selects RX4 yX4_move yX4_move, Cond.code yX4_move cX4_move 4 none, Cond.methodLink RX4 101 yX4_requireMember, Cond.instanceMethod yX4_requireMember, Cond.selects RX4 yX4_requireMember yX4_requireMember, Cond.code yX4_requireMember cX4_requireMember 2 none, Cond.classLink RX4 201 "java/lang/IndexOutOfBoundsException", Cond.initialized "java/lang/IndexOutOfBoundsException", Cond.methodLink RL 124 yX4_toggle, Cond.instanceMethod yX4_toggle, Cond.selects RX4 yX4_toggle yX4_toggle, Cond.code yX4_toggle cX4_toggle 2 (some .boolean), Cond.methodLink RL 127 yX4_setPriority, Cond.instanceMethod yX4_setPriority, Cond.selects RX4 yX4_setPriority yX4_setPriority, Cond.code yX4_setPriority cX4_setPriority 4 (some .int), Cond.methodLink RL 130 yX4_setRange, Cond.instanceMethod yX4_setRange, Cond.selects RX4 yX4_setRange yX4_setRange, Cond.code yX4_setRange cX4_setRange 3 (some .int)]
def wsL_holds_r12 : List Cond := [Cond.methodLink RL 9 yL_pair, Cond.static yL_pair, Cond.code yL_pair cL_pair 2 (some .int), Cond.methodLink RL 133 yX4_block, Cond.instanceMethod yX4_block, Cond.selects RX4 yX4_block yX4_block, Cond.code yX4_block cX4_block 3 (some .boolean), Cond.methodLink RX4 109 yX4_requireUnlike, Cond.instanceMethod yX4_requireUnlike, Cond.selects RX4 yX4_requireUnlike yX4_requireUnlike, Cond.code yX4_requireUnlike cX4_requireUnlike 3 none, Cond.instanceMethod yX1_cut, Cond.selects RX1 yX1_cut yX1_cut, Cond.code yX1_cut cX1_cut 3 none, Cond.methodLink RX1 25 yX1_without, Cond.methodLink RL 136 yX4_setEstimate, Cond.instanceMethod yX4_setEstimate, Cond.selects RX4 yX4_setEstimate yX4_setEstimate, Cond.code yX4_setEstimate cX4_setEstimate 4 (some .int), Cond.methodLink RX4 155 yX4_requireValue, Cond.static yX4_requireValue, Cond.code yX4_requireValue cX4_requireValue 1 none, Cond.constant RX4 213 (-1000000), Cond.constant RX4 214 (1000000)]
def wsL_holds_r13 : List Cond := [Cond.methodLink RL 139 yX4_setSum, Cond.instanceMethod yX4_setSum, Cond.selects RX4 yX4_setSum yX4_setSum, Cond.code yX4_setSum cX4_setSum 4 (some .int), Cond.methodLink RL 142 yX4_want, Cond.instanceMethod yX4_want, Cond.selects RX4 yX4_want yX4_want, Cond.code yX4_want cX4_want 5 (some .int), Cond.constant RX4 170 (8000000), Cond.methodLink RL 146 yL_agreed, Cond.static yL_agreed, Cond.code yL_agreed cL_agreed 10 (some .int), Cond.methodLink RL 19 yL_heard, Cond.static yL_heard, Cond.code yL_heard cL_heard 6 (some .int), Cond.methodLink RL 15 yL_square, Cond.static yL_square, Cond.code yL_square cL_square 5 (some .int), Cond.methodLink RL 23 yL_ones, Cond.static yL_ones, Cond.code yL_ones cL_ones 3 (some .int), Cond.methodLink RL 149 yL_spread, Cond.static yL_spread, Cond.code yL_spread cL_spread 10 (some .int)]
def wsL_holds_r14 : List Cond := [Cond.methodLink RL 152 yL_settle, Cond.static yL_settle, Cond.code yL_settle cL_settle 9 none, Cond.methodLink RL 116 yL_moved, Cond.static yL_moved, Cond.code yL_moved cL_moved 7 (some .int), Cond.constantLong RL 106 (1000000), Cond.constantLong RL 108 (50), Cond.constantLong RL 110 (-50), Cond.constantLong RL 112 (1000), Cond.constantLong RL 114 (-1000), Cond.methodLink RL 161 yX4_settle, Cond.instanceMethod yX4_settle, Cond.selects RX4 yX4_settle yX4_settle, Cond.code yX4_settle cX4_settle 3 (some .int), Cond.methodLink RX4 180 yX4_stepTogether, Cond.instanceMethod yX4_stepTogether, Cond.selects RX4 yX4_stepTogether yX4_stepTogether, Cond.code yX4_stepTogether cX4_stepTogether 2 none, Cond.methodLink RX4 244 yX4_stepOf, Cond.instanceMethod yX4_stepOf, Cond.selects RX4 yX4_stepOf yX4_stepOf, Cond.code yX4_stepOf cX4_stepOf 8 (some .int), Cond.constantLong RX4 251 (1000000)]
def wsL_holds_r15 : List Cond := [Cond.constantLong RX4 253 (-50), Cond.constantLong RX4 255 (50), Cond.methodLink RX4 257 Lib.MathLoose.min_long.x, Cond.static Lib.MathLoose.min_long.x, Cond.code Lib.MathLoose.min_long.x Lib.MathLoose.min_long.code 4 (some .long), Cond.methodLink RX4 260 Lib.MathLoose.max_long.x, Cond.static Lib.MathLoose.max_long.x, Cond.code Lib.MathLoose.max_long.x Lib.MathLoose.max_long.code 4 (some .long), Cond.methodLink RX4 171 yX4_excessOf, Cond.instanceMethod yX4_excessOf, Cond.selects RX4 yX4_excessOf yX4_excessOf, Cond.code yX4_excessOf cX4_excessOf 3 (some .int), Cond.methodLink RX4 248 yX4_keptOnPlane, Cond.static yX4_keptOnPlane, Cond.code yX4_keptOnPlane cX4_keptOnPlane 1 (some .int), Cond.methodLink RX4 183 yX4_error, Cond.instanceMethod yX4_error, Cond.selects RX4 yX4_error yX4_error, Cond.code yX4_error cX4_error 4 (some .int), Cond.methodLink RX4 175 Lib.Math.abs.name, Cond.static Lib.Math.abs.name, Cond.code Lib.Math.abs.name Lib.Math.abs.code 1 (some .int), Cond.methodLink RL 163 yL_error, Cond.static yL_error]
def wsL_holds_r16 : List Cond := [Cond.code yL_error cL_error 7 (some .int), Cond.methodLink RL 179 yL_isLinked, Cond.static yL_isLinked, Cond.code yL_isLinked cL_isLinked 11 (some .boolean), Cond.methodLink RL 34 yL_links, Cond.static yL_links, Cond.code yL_links cL_links 5 (some .int), Cond.methodLink RL 38 yX4_links, Cond.instanceMethod yX4_links, Cond.selects RX4 yX4_links yX4_links, Cond.code yX4_links cX4_links 1 (some .int), Cond.instanceMethod yX1_pairCount, Cond.selects RX1 yX1_pairCount yX1_pairCount, Cond.code yX1_pairCount cX1_pairCount 3 (some .int), Cond.methodLink RX1 38 yX1_degreeOf, Cond.methodLink RL 43 yX4_members, Cond.instanceMethod yX4_members, Cond.selects RX4 yX4_members yX4_members, Cond.code yX4_members cX4_members 1 (some .int), Cond.methodLink RL 31 yL_group, Cond.static yL_group, Cond.code yL_group cL_group 6 (some .int), Cond.methodLink RL 46 yX4_areLinked, Cond.instanceMethod yX4_areLinked]
def wsL_holds_r17 : List Cond := [Cond.selects RX4 yX4_areLinked yX4_areLinked, Cond.code yX4_areLinked cX4_areLinked 3 (some .boolean), Cond.methodLink RL 50 yX4_degree, Cond.instanceMethod yX4_degree, Cond.selects RX4 yX4_degree yX4_degree, Cond.code yX4_degree cX4_degree 2 (some .int), Cond.methodLink RL 53 yX4_leader, Cond.instanceMethod yX4_leader, Cond.selects RX4 yX4_leader yX4_leader, Cond.code yX4_leader cX4_leader 5 (some .int), Cond.methodLink RX4 145 yX4_outranks, Cond.instanceMethod yX4_outranks, Cond.selects RX4 yX4_outranks yX4_outranks, Cond.code yX4_outranks cX4_outranks 3 (some .boolean), Cond.methodLink RL 56 yX4_xOf, Cond.instanceMethod yX4_xOf, Cond.selects RX4 yX4_xOf yX4_xOf, Cond.code yX4_xOf cX4_xOf 2 (some .int), Cond.methodLink RL 59 yX4_yOf, Cond.instanceMethod yX4_yOf, Cond.selects RX4 yX4_yOf yX4_yOf, Cond.code yX4_yOf cX4_yOf 2 (some .int), Cond.methodLink RL 62 yX4_estimate, Cond.instanceMethod yX4_estimate]
def wsL_holds_r18 : List Cond := [Cond.selects RX4 yX4_estimate yX4_estimate, Cond.code yX4_estimate cX4_estimate 2 (some .int), Cond.methodLink RL 65 yX4_sum, Cond.instanceMethod yX4_sum, Cond.selects RX4 yX4_sum yX4_sum, Cond.code yX4_sum cX4_sum 2 (some .int), Cond.methodLink RL 68 yX4_weight, Cond.instanceMethod yX4_weight, Cond.selects RX4 yX4_weight yX4_weight, Cond.code yX4_weight cX4_weight 2 (some .int), Cond.methodLink RL 71 yX4_groups, Cond.instanceMethod yX4_groups, Cond.selects RX4 yX4_groups yX4_groups, Cond.code yX4_groups cX4_groups 1 (some .int), Cond.methodLink RL 183 yX4_error, Cond.methodLink RL 185 yL_isFigure, Cond.static yL_isFigure, Cond.code yL_isFigure cL_isFigure 13 (some .boolean), Cond.methodLink RL 79 yL_rank, Cond.static yL_rank, Cond.code yL_rank cL_rank 3 (some .int), Cond.methodLink RL 27 yL_isFree, Cond.static yL_isFree, Cond.code yL_isFree cL_isFree 4 (some .boolean)]
def wsL_holds_r19 : List Cond := [Cond.methodLink RL 82 yL_up, Cond.static yL_up, Cond.code yL_up cL_up 3 (some .int), Cond.methodLink RL 90 yL_trees, Cond.static yL_trees, Cond.code yL_trees cL_trees 6 (some .long), Cond.methodLink RL 93 yX4_rank, Cond.instanceMethod yX4_rank, Cond.selects RX4 yX4_rank yX4_rank, Cond.code yX4_rank cX4_rank 1 (some .int), Cond.methodLink RL 95 yX4_rankByCounting, Cond.instanceMethod yX4_rankByCounting, Cond.selects RX4 yX4_rankByCounting yX4_rankByCounting, Cond.code yX4_rankByCounting cX4_rankByCounting 1 (some .int), Cond.instanceMethod yX0_rankOf, Cond.selects RX0 yX0_rankOf yX0_rankOf, Cond.code yX0_rankOf cX0_rankOf 6 (some .int), Cond.methodLink RX0 15 yJ7_fill_53178, Cond.methodLink RX0 31 yX0_leavesFree, Cond.instanceMethod yX0_leavesFree, Cond.selects RX0 yX0_leavesFree yX0_leavesFree, Cond.code yX0_leavesFree cX0_leavesFree 4 (some .boolean), Cond.methodLink RX0 39 yJ6_bitCount_0f7a4, Cond.methodLink RX0 35 yX0_keepLink]
def wsL_holds_r20 : List Cond := [Cond.instanceMethod yX0_keepLink, Cond.selects RX0 yX0_keepLink yX0_keepLink, Cond.code yX0_keepLink cX0_keepLink 3 none, Cond.methodLink RL 102 yL_spare, Cond.static yL_spare, Cond.codeWith yL_spare cL_spare 4 (some .int) [(0, 14, 15, 77)], Cond.classLink RL 77 "java/util/NoSuchElementException", Cond.methodLink RL 74 yX4_isSpare, Cond.instanceMethod yX4_isSpare, Cond.selects RX4 yX4_isSpare yX4_isSpare, Cond.code yX4_isSpare cX4_isSpare 4 (some .boolean), Cond.classLink RX4 196 "java/util/NoSuchElementException", Cond.initialized "java/util/NoSuchElementException"]
def wsL_holds : List Cond := .code yL_holds cL_holds 10 (some .boolean) :: ((wsL_holds_r1 ++ (wsL_holds_r2 ++ (wsL_holds_r3 ++ (wsL_holds_r4 ++ (wsL_holds_r5 ++ (wsL_holds_r6 ++ (wsL_holds_r7 ++ (wsL_holds_r8 ++ (wsL_holds_r9 ++ (wsL_holds_r10 ++ (wsL_holds_r11 ++ (wsL_holds_r12 ++ (wsL_holds_r13 ++ (wsL_holds_r14 ++ (wsL_holds_r15 ++ (wsL_holds_r16 ++ (wsL_holds_r17 ++ (wsL_holds_r18 ++ (wsL_holds_r19 ++ wsL_holds_r20))))))))))))))))))) ++ wsX40 ++ wsX10 ++ wsX20 ++ wsX00 ++ wsX30 ++ (vx_atS RX4 210 "java/lang/IllegalArgumentException" ["java/lang/RuntimeException", "java/lang/Exception"]).filter goodWord ++ (vx_atS RX4 98 "java/lang/IllegalStateException" ["java/lang/RuntimeException", "java/lang/Exception"]).filter goodWord ++ (vx_atS RX4 205 "java/lang/IndexOutOfBoundsException" ["java/lang/RuntimeException", "java/lang/Exception"]).filter goodWord ++ fx_at200.filter goodWord)
def wsL_isHeld_r1 : List Cond := [Cond.classLink RL 193 "java/lang/IndexOutOfBoundsException", Cond.classLink RL 195 "java/lang/IllegalArgumentException", Cond.classLink RL 197 "java/lang/IllegalStateException", Cond.methodLink RL 189 yL_holds, Cond.static yL_holds, Cond.initialized RL, Cond.code yL_holds cL_holds 10 (some .boolean), Cond.classLink RL 39 RX4, Cond.instantiable RX4 18, Cond.initialized RX4, Cond.arrayClass .int, Cond.constant RL 171 (1000000), Cond.methodLink RL 167 yX4_init, Cond.instanceMethod yX4_init, Cond.code yX4_init cX4_init 2 none, Cond.methodLink RX4 1 objectInit, Cond.instanceMethod objectInit, Cond.code objectInit ⟨#[0xb1]⟩ 1 none, Cond.fieldLink RX4 9 "Formationist" "xs" "[I", Cond.fieldLink RX4 13 "Formationist" "ys" "[I", Cond.arrayClass .boolean, Cond.fieldLink RX4 16 "Formationist" "ups" "[Z", Cond.fieldLink RX4 20 "Formationist" "priorities" "[I", Cond.fieldLink RX4 23 "Formationist" "estimates" "[I"]
def wsL_isHeld_r2 : List Cond := [Cond.fieldLink RX4 26 "Formationist" "sums" "[I", Cond.fieldLink RX4 29 "Formationist" "weights" "[I", Cond.fieldLink RX4 32 "Formationist" "lastReceivers" "[I", Cond.classLink RX4 35 "[[I", Cond.fieldLink RX4 37 "Formationist" "wantedSquares" "[[I", Cond.classLink RX4 40 RX1, Cond.instantiable RX1 1, Cond.initialized RX1, Cond.fieldLink RX4 43 "Formationist" "blocked" "LFormationist$Net;", Cond.fieldLink RX4 47 "Formationist" "count" "I", Cond.fieldLink RX4 51 "Formationist" "range" "I", Cond.fieldLink RX4 54 "Formationist" "net" "LFormationist$Net;", Cond.fieldLink RX4 57 "Formationist" "changes" "[I", Cond.fieldLink RX4 60 "Formationist" "moreChanges" "[I", Cond.classLink RX4 63 RX2, Cond.instantiable RX2 3, Cond.initialized RX2, Cond.fieldLink RX4 66 "Formationist" "pebbleGame" "LFormationist$PebbleGame;", Cond.classLink RX4 70 RX0, Cond.instantiable RX0 1, Cond.initialized RX0, Cond.fieldLink RX4 73 "Formationist" "linkCounts" "LFormationist$LinkCounts;", Cond.classLink RX4 77 RX3, Cond.instantiable RX3 1]
def wsL_isHeld_r3 : List Cond := [Cond.initialized RX3, Cond.fieldLink RX4 80 "Formationist" "treeMatrix" "LFormationist$TreeMatrix;", Cond.instanceMethod yX1_init, Cond.code yX1_init cX1_init 1 none, Cond.methodLink RX1 3 objectInit, Cond.fieldLink RX1 9 "Formationist$Net" "others" "[I", Cond.instanceMethod yX2_init, Cond.code yX2_init cX2_init 1 none, Cond.methodLink RX2 3 objectInit, Cond.fieldLink RX2 9 "Formationist$PebbleGame" "pebbles" "[I", Cond.fieldLink RX2 15 "Formationist$PebbleGame" "arcs" "[I", Cond.fieldLink RX2 18 "Formationist$PebbleGame" "cameFrom" "[I", Cond.instanceMethod yX0_init, Cond.code yX0_init cX0_init 1 none, Cond.methodLink RX0 3 objectInit, Cond.fieldLink RX0 11 "Formationist$LinkCounts" "linksWithin" "[I", Cond.instanceMethod yX3_init, Cond.code yX3_init cX3_init 1 none, Cond.methodLink RX3 3 objectInit, Cond.classLink RX3 9 "[[J", Cond.arrayClass .long, Cond.fieldLink RX3 11 "Formationist$TreeMatrix" "rows" "[[J", Cond.methodLink RX4 84 yJ7_fill_53178, Cond.static yJ7_fill_53178]
def wsL_isHeld_r4 : List Cond := [Cond.initialized RJ7, Cond.code yJ7_fill_53178 cJ7_fill_53178 4 none, Cond.methodLink RL 156 yX4_agree, Cond.instanceMethod yX4_agree, Cond.selects RX4 yX4_agree yX4_agree, Cond.code yX4_agree cX4_agree 3 (some .int), Cond.methodLink RX4 158 yX4_requireRounds, Cond.static yX4_requireRounds, Cond.code yX4_requireRounds cX4_requireRounds 1 none, Cond.methodLink RX4 105 yX4_requireWithin, Cond.static yX4_requireWithin, Cond.code yX4_requireWithin cX4_requireWithin 3 none, Cond.classLink RX4 206 "java/lang/IllegalArgumentException", Cond.initialized "java/lang/IllegalArgumentException", Cond.methodLink RX4 125 yX4_drawNet, Cond.instanceMethod yX4_drawNet, Cond.selects RX4 yX4_drawNet yX4_drawNet, Cond.code yX4_drawNet cX4_drawNet 3 none, Cond.instanceMethod yX1_clear, Cond.selects RX1 yX1_clear yX1_clear, Cond.code yX1_clear cX1_clear 1 none, Cond.methodLink RX1 15 yJ7_fill_53178, Cond.methodLink RX4 122 yX4_hears, Cond.instanceMethod yX4_hears]
def wsL_isHeld_r5 : List Cond := [Cond.selects RX4 yX4_hears yX4_hears, Cond.code yX4_hears cX4_hears 3 (some .boolean), Cond.instanceMethod yX1_joins, Cond.selects RX1 yX1_joins yX1_joins, Cond.code yX1_joins cX1_joins 3 (some .boolean), Cond.methodLink RX1 28 yX1_holds, Cond.static yX1_holds, Cond.code yX1_holds cX1_holds 2 (some .boolean), Cond.methodLink RX4 215 yX4_squareBetween, Cond.instanceMethod yX4_squareBetween, Cond.selects RX4 yX4_squareBetween yX4_squareBetween, Cond.code yX4_squareBetween cX4_squareBetween 5 (some .int), Cond.instanceMethod yX1_join, Cond.selects RX1 yX1_join yX1_join, Cond.code yX1_join cX1_join 3 none, Cond.methodLink RX1 21 yX1_with, Cond.static yX1_with, Cond.code yX1_with cX1_with 2 (some .int), Cond.methodLink RX4 161 yX4_exchangeEstimates, Cond.instanceMethod yX4_exchangeEstimates, Cond.selects RX4 yX4_exchangeEstimates yX4_exchangeEstimates, Cond.code yX4_exchangeEstimates cX4_exchangeEstimates 4 none, Cond.methodLink RX4 224 yX4_flowBetween, Cond.instanceMethod yX4_flowBetween]
def wsL_isHeld_r6 : List Cond := [Cond.selects RX4 yX4_flowBetween yX4_flowBetween, Cond.code yX4_flowBetween cX4_flowBetween 4 (some .int), Cond.methodLink RX4 231 Lib.Math.max.name, Cond.static Lib.Math.max.name, Cond.initialized "java/lang/Math", Cond.code Lib.Math.max.name Lib.Math.max.code 2 (some .int), Cond.instanceMethod yX1_degreeOf, Cond.selects RX1 yX1_degreeOf yX1_degreeOf, Cond.code yX1_degreeOf cX1_degreeOf 2 (some .int), Cond.methodLink RX1 32 yJ6_bitCount_0f7a4, Cond.static yJ6_bitCount_0f7a4, Cond.initialized RJ6, Cond.code yJ6_bitCount_0f7a4 cJ6_bitCount_0f7a4 1 (some .int), Cond.constant RJ6 265 (1431655765), Cond.constant RJ6 266 (858993459), Cond.constant RJ6 267 (252645135), Cond.methodLink RX4 227 yX4_addChanges, Cond.instanceMethod yX4_addChanges, Cond.selects RX4 yX4_addChanges yX4_addChanges, Cond.code yX4_addChanges cX4_addChanges 4 none, Cond.methodLink RX4 164 yX4_spanOfEstimates, Cond.instanceMethod yX4_spanOfEstimates, Cond.selects RX4 yX4_spanOfEstimates yX4_spanOfEstimates, Cond.code yX4_spanOfEstimates cX4_spanOfEstimates 4 (some .int)]
def wsL_isHeld_r7 : List Cond := [Cond.methodLink RX4 234 Lib.Math.min.name, Cond.static Lib.Math.min.name, Cond.code Lib.Math.min.name Lib.Math.min.code 2 (some .int), Cond.methodLink RL 159 yX4_spread, Cond.instanceMethod yX4_spread, Cond.selects RX4 yX4_spread yX4_spread, Cond.code yX4_spread cX4_spread 4 (some .int), Cond.methodLink RX4 167 yX4_handHalves, Cond.instanceMethod yX4_handHalves, Cond.selects RX4 yX4_handHalves yX4_handHalves, Cond.code yX4_handHalves cX4_handHalves 4 (some .int), Cond.methodLink RX4 237 yX4_nextReceiver, Cond.instanceMethod yX4_nextReceiver, Cond.selects RX4 yX4_nextReceiver yX4_nextReceiver, Cond.code yX4_nextReceiver cX4_nextReceiver 4 (some .int), Cond.methodLink RX4 240 yX4_handOver, Cond.static yX4_handOver, Cond.code yX4_handOver cX4_handOver 4 none, Cond.methodLink RL 86 yX4_trees, Cond.instanceMethod yX4_trees, Cond.selects RX4 yX4_trees yX4_trees, Cond.code yX4_trees cX4_trees 1 (some .long), Cond.methodLink RX4 148 yX4_upSet, Cond.instanceMethod yX4_upSet]
def wsL_isHeld_r8 : List Cond := [Cond.selects RX4 yX4_upSet yX4_upSet, Cond.code yX4_upSet cX4_upSet 3 (some .int), Cond.instanceMethod yX3_treesOf, Cond.selects RX3 yX3_treesOf yX3_treesOf, Cond.code yX3_treesOf cX3_treesOf 4 (some .long), Cond.methodLink RX3 16 yJ6_numberOfTrailingZeros_0f7a4, Cond.static yJ6_numberOfTrailingZeros_0f7a4, Cond.code yJ6_numberOfTrailingZeros_0f7a4 cJ6_numberOfTrailingZeros_0f7a4 2 (some .int), Cond.constant RJ6 264 (65536), Cond.static yX1_without, Cond.code yX1_without cX1_without 2 (some .int), Cond.methodLink RX3 28 yX3_fill, Cond.instanceMethod yX3_fill, Cond.selects RX3 yX3_fill yX3_fill, Cond.code yX3_fill cX3_fill 5 (some .int), Cond.methodLink RX3 40 yX3_fillRow, Cond.static yX3_fillRow, Cond.code yX3_fillRow cX3_fillRow 6 none, Cond.constantLong RX3 47 (-1), Cond.methodLink RX3 32 yX3_determinant, Cond.instanceMethod yX3_determinant, Cond.selects RX3 yX3_determinant yX3_determinant, Cond.code yX3_determinant cX3_determinant 11 (some .long), Cond.methodLink RL 98 yX4_isRigid]
def wsL_isHeld_r9 : List Cond := [Cond.instanceMethod yX4_isRigid, Cond.selects RX4 yX4_isRigid yX4_isRigid, Cond.code yX4_isRigid cX4_isRigid 2 (some .boolean), Cond.methodLink RX4 191 yJ6_bitCount_0f7a4, Cond.methodLink RX4 136 yX4_countGroups, Cond.instanceMethod yX4_countGroups, Cond.selects RX4 yX4_countGroups yX4_countGroups, Cond.code yX4_countGroups cX4_countGroups 4 (some .int), Cond.instanceMethod yX1_groupOf, Cond.selects RX1 yX1_groupOf yX1_groupOf, Cond.code yX1_groupOf cX1_groupOf 6 (some .int), Cond.instanceMethod yX2_rankOf, Cond.selects RX2 yX2_rankOf yX2_rankOf, Cond.code yX2_rankOf cX2_rankOf 5 (some .int), Cond.methodLink RX2 21 yJ7_fill_53178, Cond.methodLink RX2 33 yX2_gatherPebbles, Cond.instanceMethod yX2_gatherPebbles, Cond.selects RX2 yX2_gatherPebbles yX2_gatherPebbles, Cond.code yX2_gatherPebbles cX2_gatherPebbles 4 (some .boolean), Cond.methodLink RX2 40 yX2_fetchPebble, Cond.instanceMethod yX2_fetchPebble, Cond.selects RX2 yX2_fetchPebble yX2_fetchPebble, Cond.code yX2_fetchPebble cX2_fetchPebble 4 (some .boolean), Cond.methodLink RX2 43 yX2_findPebble]
def wsL_isHeld_r10 : List Cond := [Cond.instanceMethod yX2_findPebble, Cond.selects RX2 yX2_findPebble yX2_findPebble, Cond.code yX2_findPebble cX2_findPebble 9 (some .int), Cond.methodLink RX2 53 yX2_noteWay, Cond.instanceMethod yX2_noteWay, Cond.selects RX2 yX2_noteWay yX2_noteWay, Cond.code yX2_noteWay cX2_noteWay 4 none, Cond.methodLink RX2 57 yX2_holderAmong, Cond.instanceMethod yX2_holderAmong, Cond.selects RX2 yX2_holderAmong yX2_holderAmong, Cond.code yX2_holderAmong cX2_holderAmong 3 (some .int), Cond.methodLink RX2 46 yX2_turnArcs, Cond.instanceMethod yX2_turnArcs, Cond.selects RX2 yX2_turnArcs yX2_turnArcs, Cond.code yX2_turnArcs cX2_turnArcs 5 none, Cond.methodLink RL 168 yL_from, Cond.static yL_from, Cond.code yL_from cL_from 4 (some .int), Cond.constant RL 7 (110969), Cond.constant RL 8 (2147483647), Cond.methodLink RL 172 yX4_addMember, Cond.instanceMethod yX4_addMember, Cond.selects RX4 yX4_addMember yX4_addMember, Cond.code yX4_addMember cX4_addMember 4 (some .int)]
def wsL_isHeld_r11 : List Cond := [Cond.classLink RX4 94 "java/lang/IllegalStateException", Cond.initialized "java/lang/IllegalStateException", Cond.methodLink RX4 90 yX4_requirePlace, Cond.static yX4_requirePlace, Cond.code yX4_requirePlace cX4_requirePlace 2 none, Cond.methodLink RL 175 yL_acts, Cond.static yL_acts, Cond.code yL_acts cL_acts 12 (some .boolean), Cond.methodLink RL 120 yX4_move, Cond.instanceMethod yX4_move, Cond.selects RX4 yX4_move yX4_move, Cond.code yX4_move cX4_move 4 none, Cond.methodLink RX4 101 yX4_requireMember, Cond.instanceMethod yX4_requireMember, Cond.selects RX4 yX4_requireMember yX4_requireMember, Cond.code yX4_requireMember cX4_requireMember 2 none, Cond.classLink RX4 201 "java/lang/IndexOutOfBoundsException", Cond.initialized "java/lang/IndexOutOfBoundsException", Cond.methodLink RL 124 yX4_toggle, Cond.instanceMethod yX4_toggle, Cond.selects RX4 yX4_toggle yX4_toggle, Cond.code yX4_toggle cX4_toggle 2 (some .boolean), Cond.methodLink RL 127 yX4_setPriority, Cond.instanceMethod yX4_setPriority]
def wsL_isHeld_r12 : List Cond := [Cond.selects RX4 yX4_setPriority yX4_setPriority, Cond.code yX4_setPriority cX4_setPriority 4 (some .int), Cond.methodLink RL 130 yX4_setRange, Cond.instanceMethod yX4_setRange, Cond.selects RX4 yX4_setRange yX4_setRange, Cond.code yX4_setRange cX4_setRange 3 (some .int), Cond.methodLink RL 9 yL_pair, Cond.static yL_pair, Cond.code yL_pair cL_pair 2 (some .int), Cond.methodLink RL 133 yX4_block, Cond.instanceMethod yX4_block, Cond.selects RX4 yX4_block yX4_block, Cond.code yX4_block cX4_block 3 (some .boolean), Cond.methodLink RX4 109 yX4_requireUnlike, Cond.instanceMethod yX4_requireUnlike, Cond.selects RX4 yX4_requireUnlike yX4_requireUnlike, Cond.code yX4_requireUnlike cX4_requireUnlike 3 none, Cond.instanceMethod yX1_cut, Cond.selects RX1 yX1_cut yX1_cut, Cond.code yX1_cut cX1_cut 3 none, Cond.methodLink RX1 25 yX1_without, Cond.methodLink RL 136 yX4_setEstimate, Cond.instanceMethod yX4_setEstimate, Cond.selects RX4 yX4_setEstimate yX4_setEstimate]
def wsL_isHeld_r13 : List Cond := [Cond.code yX4_setEstimate cX4_setEstimate 4 (some .int), Cond.methodLink RX4 155 yX4_requireValue, Cond.static yX4_requireValue, Cond.code yX4_requireValue cX4_requireValue 1 none, Cond.constant RX4 213 (-1000000), Cond.constant RX4 214 (1000000), Cond.methodLink RL 139 yX4_setSum, Cond.instanceMethod yX4_setSum, Cond.selects RX4 yX4_setSum yX4_setSum, Cond.code yX4_setSum cX4_setSum 4 (some .int), Cond.methodLink RL 142 yX4_want, Cond.instanceMethod yX4_want, Cond.selects RX4 yX4_want yX4_want, Cond.code yX4_want cX4_want 5 (some .int), Cond.constant RX4 170 (8000000), Cond.methodLink RL 146 yL_agreed, Cond.static yL_agreed, Cond.code yL_agreed cL_agreed 10 (some .int), Cond.methodLink RL 19 yL_heard, Cond.static yL_heard, Cond.code yL_heard cL_heard 6 (some .int), Cond.methodLink RL 15 yL_square, Cond.static yL_square, Cond.code yL_square cL_square 5 (some .int)]
def wsL_isHeld_r14 : List Cond := [Cond.methodLink RL 23 yL_ones, Cond.static yL_ones, Cond.code yL_ones cL_ones 3 (some .int), Cond.methodLink RL 149 yL_spread, Cond.static yL_spread, Cond.code yL_spread cL_spread 10 (some .int), Cond.methodLink RL 152 yL_settle, Cond.static yL_settle, Cond.code yL_settle cL_settle 9 none, Cond.methodLink RL 116 yL_moved, Cond.static yL_moved, Cond.code yL_moved cL_moved 7 (some .int), Cond.constantLong RL 106 (1000000), Cond.constantLong RL 108 (50), Cond.constantLong RL 110 (-50), Cond.constantLong RL 112 (1000), Cond.constantLong RL 114 (-1000), Cond.methodLink RL 161 yX4_settle, Cond.instanceMethod yX4_settle, Cond.selects RX4 yX4_settle yX4_settle, Cond.code yX4_settle cX4_settle 3 (some .int), Cond.methodLink RX4 180 yX4_stepTogether, Cond.instanceMethod yX4_stepTogether, Cond.selects RX4 yX4_stepTogether yX4_stepTogether]
def wsL_isHeld_r15 : List Cond := [Cond.code yX4_stepTogether cX4_stepTogether 2 none, Cond.methodLink RX4 244 yX4_stepOf, Cond.instanceMethod yX4_stepOf, Cond.selects RX4 yX4_stepOf yX4_stepOf, Cond.code yX4_stepOf cX4_stepOf 8 (some .int), Cond.constantLong RX4 251 (1000000), Cond.constantLong RX4 253 (-50), Cond.constantLong RX4 255 (50), Cond.methodLink RX4 257 Lib.MathLoose.min_long.x, Cond.static Lib.MathLoose.min_long.x, Cond.code Lib.MathLoose.min_long.x Lib.MathLoose.min_long.code 4 (some .long), Cond.methodLink RX4 260 Lib.MathLoose.max_long.x, Cond.static Lib.MathLoose.max_long.x, Cond.code Lib.MathLoose.max_long.x Lib.MathLoose.max_long.code 4 (some .long), Cond.methodLink RX4 171 yX4_excessOf, Cond.instanceMethod yX4_excessOf, Cond.selects RX4 yX4_excessOf yX4_excessOf, Cond.code yX4_excessOf cX4_excessOf 3 (some .int), Cond.methodLink RX4 248 yX4_keptOnPlane, Cond.static yX4_keptOnPlane, Cond.code yX4_keptOnPlane cX4_keptOnPlane 1 (some .int), Cond.methodLink RX4 183 yX4_error, Cond.instanceMethod yX4_error, Cond.selects RX4 yX4_error yX4_error]
def wsL_isHeld_r16 : List Cond := [Cond.code yX4_error cX4_error 4 (some .int), Cond.methodLink RX4 175 Lib.Math.abs.name, Cond.static Lib.Math.abs.name, Cond.code Lib.Math.abs.name Lib.Math.abs.code 1 (some .int), Cond.methodLink RL 163 yL_error, Cond.static yL_error, Cond.code yL_error cL_error 7 (some .int), Cond.methodLink RL 179 yL_isLinked, Cond.static yL_isLinked, Cond.code yL_isLinked cL_isLinked 11 (some .boolean), Cond.methodLink RL 34 yL_links, Cond.static yL_links, Cond.code yL_links cL_links 5 (some .int), Cond.methodLink RL 38 yX4_links, Cond.instanceMethod yX4_links, Cond.selects RX4 yX4_links yX4_links, Cond.code yX4_links cX4_links 1 (some .int), Cond.instanceMethod yX1_pairCount, Cond.selects RX1 yX1_pairCount yX1_pairCount, Cond.code yX1_pairCount cX1_pairCount 3 (some .int), Cond.methodLink RX1 38 yX1_degreeOf, Cond.methodLink RL 43 yX4_members, Cond.instanceMethod yX4_members, Cond.selects RX4 yX4_members yX4_members]
def wsL_isHeld_r17 : List Cond := [Cond.code yX4_members cX4_members 1 (some .int), Cond.methodLink RL 31 yL_group, Cond.static yL_group, Cond.code yL_group cL_group 6 (some .int), Cond.methodLink RL 46 yX4_areLinked, Cond.instanceMethod yX4_areLinked, Cond.selects RX4 yX4_areLinked yX4_areLinked, Cond.code yX4_areLinked cX4_areLinked 3 (some .boolean), Cond.methodLink RL 50 yX4_degree, Cond.instanceMethod yX4_degree, Cond.selects RX4 yX4_degree yX4_degree, Cond.code yX4_degree cX4_degree 2 (some .int), Cond.methodLink RL 53 yX4_leader, Cond.instanceMethod yX4_leader, Cond.selects RX4 yX4_leader yX4_leader, Cond.code yX4_leader cX4_leader 5 (some .int), Cond.methodLink RX4 145 yX4_outranks, Cond.instanceMethod yX4_outranks, Cond.selects RX4 yX4_outranks yX4_outranks, Cond.code yX4_outranks cX4_outranks 3 (some .boolean), Cond.methodLink RL 56 yX4_xOf, Cond.instanceMethod yX4_xOf, Cond.selects RX4 yX4_xOf yX4_xOf, Cond.code yX4_xOf cX4_xOf 2 (some .int)]
def wsL_isHeld_r18 : List Cond := [Cond.methodLink RL 59 yX4_yOf, Cond.instanceMethod yX4_yOf, Cond.selects RX4 yX4_yOf yX4_yOf, Cond.code yX4_yOf cX4_yOf 2 (some .int), Cond.methodLink RL 62 yX4_estimate, Cond.instanceMethod yX4_estimate, Cond.selects RX4 yX4_estimate yX4_estimate, Cond.code yX4_estimate cX4_estimate 2 (some .int), Cond.methodLink RL 65 yX4_sum, Cond.instanceMethod yX4_sum, Cond.selects RX4 yX4_sum yX4_sum, Cond.code yX4_sum cX4_sum 2 (some .int), Cond.methodLink RL 68 yX4_weight, Cond.instanceMethod yX4_weight, Cond.selects RX4 yX4_weight yX4_weight, Cond.code yX4_weight cX4_weight 2 (some .int), Cond.methodLink RL 71 yX4_groups, Cond.instanceMethod yX4_groups, Cond.selects RX4 yX4_groups yX4_groups, Cond.code yX4_groups cX4_groups 1 (some .int), Cond.methodLink RL 183 yX4_error, Cond.methodLink RL 185 yL_isFigure, Cond.static yL_isFigure, Cond.code yL_isFigure cL_isFigure 13 (some .boolean)]
def wsL_isHeld_r19 : List Cond := [Cond.methodLink RL 79 yL_rank, Cond.static yL_rank, Cond.code yL_rank cL_rank 3 (some .int), Cond.methodLink RL 27 yL_isFree, Cond.static yL_isFree, Cond.code yL_isFree cL_isFree 4 (some .boolean), Cond.methodLink RL 82 yL_up, Cond.static yL_up, Cond.code yL_up cL_up 3 (some .int), Cond.methodLink RL 90 yL_trees, Cond.static yL_trees, Cond.code yL_trees cL_trees 6 (some .long), Cond.methodLink RL 93 yX4_rank, Cond.instanceMethod yX4_rank, Cond.selects RX4 yX4_rank yX4_rank, Cond.code yX4_rank cX4_rank 1 (some .int), Cond.methodLink RL 95 yX4_rankByCounting, Cond.instanceMethod yX4_rankByCounting, Cond.selects RX4 yX4_rankByCounting yX4_rankByCounting, Cond.code yX4_rankByCounting cX4_rankByCounting 1 (some .int), Cond.instanceMethod yX0_rankOf, Cond.selects RX0 yX0_rankOf yX0_rankOf, Cond.code yX0_rankOf cX0_rankOf 6 (some .int), Cond.methodLink RX0 15 yJ7_fill_53178]
def wsL_isHeld_r20 : List Cond := [Cond.methodLink RX0 31 yX0_leavesFree, Cond.instanceMethod yX0_leavesFree, Cond.selects RX0 yX0_leavesFree yX0_leavesFree, Cond.code yX0_leavesFree cX0_leavesFree 4 (some .boolean), Cond.methodLink RX0 39 yJ6_bitCount_0f7a4, Cond.methodLink RX0 35 yX0_keepLink, Cond.instanceMethod yX0_keepLink, Cond.selects RX0 yX0_keepLink yX0_keepLink, Cond.code yX0_keepLink cX0_keepLink 3 none, Cond.methodLink RL 102 yL_spare, Cond.static yL_spare, Cond.codeWith yL_spare cL_spare 4 (some .int) [(0, 14, 15, 77)], Cond.classLink RL 77 "java/util/NoSuchElementException", Cond.methodLink RL 74 yX4_isSpare, Cond.instanceMethod yX4_isSpare, Cond.selects RX4 yX4_isSpare yX4_isSpare, Cond.code yX4_isSpare cX4_isSpare 4 (some .boolean), Cond.classLink RX4 196 "java/util/NoSuchElementException", Cond.initialized "java/util/NoSuchElementException"]
def wsL_isHeld : List Cond := .codeWith yL_isHeld cL_isHeld 2 (some .boolean) [(0, 4, 5, 193), (0, 4, 8, 195), (0, 4, 11, 197)] :: ((wsL_isHeld_r1 ++ (wsL_isHeld_r2 ++ (wsL_isHeld_r3 ++ (wsL_isHeld_r4 ++ (wsL_isHeld_r5 ++ (wsL_isHeld_r6 ++ (wsL_isHeld_r7 ++ (wsL_isHeld_r8 ++ (wsL_isHeld_r9 ++ (wsL_isHeld_r10 ++ (wsL_isHeld_r11 ++ (wsL_isHeld_r12 ++ (wsL_isHeld_r13 ++ (wsL_isHeld_r14 ++ (wsL_isHeld_r15 ++ (wsL_isHeld_r16 ++ (wsL_isHeld_r17 ++ (wsL_isHeld_r18 ++ (wsL_isHeld_r19 ++ wsL_isHeld_r20))))))))))))))))))) ++ wsX40 ++ wsX10 ++ wsX20 ++ wsX00 ++ wsX30 ++ (vx_atS RX4 210 "java/lang/IllegalArgumentException" ["java/lang/RuntimeException", "java/lang/Exception"]).filter goodWord ++ (vx_atS RX4 98 "java/lang/IllegalStateException" ["java/lang/RuntimeException", "java/lang/Exception"]).filter goodWord ++ (vx_atS RX4 205 "java/lang/IndexOutOfBoundsException" ["java/lang/RuntimeException", "java/lang/Exception"]).filter goodWord ++ fx_at200.filter goodWord)
def wsL_law0_r1 : List Cond := [Cond.methodLink RL 199 yL_isHeld, Cond.static yL_isHeld, Cond.initialized RL, Cond.codeWith yL_isHeld cL_isHeld 2 (some .boolean) [(0, 4, 5, 193), (0, 4, 8, 195), (0, 4, 11, 197)], Cond.classLink RL 193 "java/lang/IndexOutOfBoundsException", Cond.classLink RL 195 "java/lang/IllegalArgumentException", Cond.classLink RL 197 "java/lang/IllegalStateException", Cond.methodLink RL 189 yL_holds, Cond.static yL_holds, Cond.code yL_holds cL_holds 10 (some .boolean), Cond.classLink RL 39 RX4, Cond.instantiable RX4 18, Cond.initialized RX4, Cond.arrayClass .int, Cond.constant RL 171 (1000000), Cond.methodLink RL 167 yX4_init, Cond.instanceMethod yX4_init, Cond.code yX4_init cX4_init 2 none, Cond.methodLink RX4 1 objectInit, Cond.instanceMethod objectInit, Cond.code objectInit ⟨#[0xb1]⟩ 1 none, Cond.fieldLink RX4 9 "Formationist" "xs" "[I", Cond.fieldLink RX4 13 "Formationist" "ys" "[I", Cond.arrayClass .boolean]
def wsL_law0_r2 : List Cond := [Cond.fieldLink RX4 16 "Formationist" "ups" "[Z", Cond.fieldLink RX4 20 "Formationist" "priorities" "[I", Cond.fieldLink RX4 23 "Formationist" "estimates" "[I", Cond.fieldLink RX4 26 "Formationist" "sums" "[I", Cond.fieldLink RX4 29 "Formationist" "weights" "[I", Cond.fieldLink RX4 32 "Formationist" "lastReceivers" "[I", Cond.classLink RX4 35 "[[I", Cond.fieldLink RX4 37 "Formationist" "wantedSquares" "[[I", Cond.classLink RX4 40 RX1, Cond.instantiable RX1 1, Cond.initialized RX1, Cond.fieldLink RX4 43 "Formationist" "blocked" "LFormationist$Net;", Cond.fieldLink RX4 47 "Formationist" "count" "I", Cond.fieldLink RX4 51 "Formationist" "range" "I", Cond.fieldLink RX4 54 "Formationist" "net" "LFormationist$Net;", Cond.fieldLink RX4 57 "Formationist" "changes" "[I", Cond.fieldLink RX4 60 "Formationist" "moreChanges" "[I", Cond.classLink RX4 63 RX2, Cond.instantiable RX2 3, Cond.initialized RX2, Cond.fieldLink RX4 66 "Formationist" "pebbleGame" "LFormationist$PebbleGame;", Cond.classLink RX4 70 RX0, Cond.instantiable RX0 1, Cond.initialized RX0]
def wsL_law0_r3 : List Cond := [Cond.fieldLink RX4 73 "Formationist" "linkCounts" "LFormationist$LinkCounts;", Cond.classLink RX4 77 RX3, Cond.instantiable RX3 1, Cond.initialized RX3, Cond.fieldLink RX4 80 "Formationist" "treeMatrix" "LFormationist$TreeMatrix;", Cond.instanceMethod yX1_init, Cond.code yX1_init cX1_init 1 none, Cond.methodLink RX1 3 objectInit, Cond.fieldLink RX1 9 "Formationist$Net" "others" "[I", Cond.instanceMethod yX2_init, Cond.code yX2_init cX2_init 1 none, Cond.methodLink RX2 3 objectInit, Cond.fieldLink RX2 9 "Formationist$PebbleGame" "pebbles" "[I", Cond.fieldLink RX2 15 "Formationist$PebbleGame" "arcs" "[I", Cond.fieldLink RX2 18 "Formationist$PebbleGame" "cameFrom" "[I", Cond.instanceMethod yX0_init, Cond.code yX0_init cX0_init 1 none, Cond.methodLink RX0 3 objectInit, Cond.fieldLink RX0 11 "Formationist$LinkCounts" "linksWithin" "[I", Cond.instanceMethod yX3_init, Cond.code yX3_init cX3_init 1 none, Cond.methodLink RX3 3 objectInit, Cond.classLink RX3 9 "[[J", Cond.arrayClass .long]
def wsL_law0_r4 : List Cond := [Cond.fieldLink RX3 11 "Formationist$TreeMatrix" "rows" "[[J", Cond.methodLink RX4 84 yJ7_fill_53178, Cond.static yJ7_fill_53178, Cond.initialized RJ7, Cond.code yJ7_fill_53178 cJ7_fill_53178 4 none, Cond.methodLink RL 156 yX4_agree, Cond.instanceMethod yX4_agree, Cond.selects RX4 yX4_agree yX4_agree, Cond.code yX4_agree cX4_agree 3 (some .int), Cond.methodLink RX4 158 yX4_requireRounds, Cond.static yX4_requireRounds, Cond.code yX4_requireRounds cX4_requireRounds 1 none, Cond.methodLink RX4 105 yX4_requireWithin, Cond.static yX4_requireWithin, Cond.code yX4_requireWithin cX4_requireWithin 3 none, Cond.classLink RX4 206 "java/lang/IllegalArgumentException", Cond.initialized "java/lang/IllegalArgumentException", Cond.methodLink RX4 125 yX4_drawNet, Cond.instanceMethod yX4_drawNet, Cond.selects RX4 yX4_drawNet yX4_drawNet, Cond.code yX4_drawNet cX4_drawNet 3 none, Cond.instanceMethod yX1_clear, Cond.selects RX1 yX1_clear yX1_clear, Cond.code yX1_clear cX1_clear 1 none]
def wsL_law0_r5 : List Cond := [Cond.methodLink RX1 15 yJ7_fill_53178, Cond.methodLink RX4 122 yX4_hears, Cond.instanceMethod yX4_hears, Cond.selects RX4 yX4_hears yX4_hears, Cond.code yX4_hears cX4_hears 3 (some .boolean), Cond.instanceMethod yX1_joins, Cond.selects RX1 yX1_joins yX1_joins, Cond.code yX1_joins cX1_joins 3 (some .boolean), Cond.methodLink RX1 28 yX1_holds, Cond.static yX1_holds, Cond.code yX1_holds cX1_holds 2 (some .boolean), Cond.methodLink RX4 215 yX4_squareBetween, Cond.instanceMethod yX4_squareBetween, Cond.selects RX4 yX4_squareBetween yX4_squareBetween, Cond.code yX4_squareBetween cX4_squareBetween 5 (some .int), Cond.instanceMethod yX1_join, Cond.selects RX1 yX1_join yX1_join, Cond.code yX1_join cX1_join 3 none, Cond.methodLink RX1 21 yX1_with, Cond.static yX1_with, Cond.code yX1_with cX1_with 2 (some .int), Cond.methodLink RX4 161 yX4_exchangeEstimates, Cond.instanceMethod yX4_exchangeEstimates, Cond.selects RX4 yX4_exchangeEstimates yX4_exchangeEstimates]
def wsL_law0_r6 : List Cond := [Cond.code yX4_exchangeEstimates cX4_exchangeEstimates 4 none, Cond.methodLink RX4 224 yX4_flowBetween, Cond.instanceMethod yX4_flowBetween, Cond.selects RX4 yX4_flowBetween yX4_flowBetween, Cond.code yX4_flowBetween cX4_flowBetween 4 (some .int), Cond.methodLink RX4 231 Lib.Math.max.name, Cond.static Lib.Math.max.name, Cond.initialized "java/lang/Math", Cond.code Lib.Math.max.name Lib.Math.max.code 2 (some .int), Cond.instanceMethod yX1_degreeOf, Cond.selects RX1 yX1_degreeOf yX1_degreeOf, Cond.code yX1_degreeOf cX1_degreeOf 2 (some .int), Cond.methodLink RX1 32 yJ6_bitCount_0f7a4, Cond.static yJ6_bitCount_0f7a4, Cond.initialized RJ6, Cond.code yJ6_bitCount_0f7a4 cJ6_bitCount_0f7a4 1 (some .int), Cond.constant RJ6 265 (1431655765), Cond.constant RJ6 266 (858993459), Cond.constant RJ6 267 (252645135), Cond.methodLink RX4 227 yX4_addChanges, Cond.instanceMethod yX4_addChanges, Cond.selects RX4 yX4_addChanges yX4_addChanges, Cond.code yX4_addChanges cX4_addChanges 4 none, Cond.methodLink RX4 164 yX4_spanOfEstimates]
def wsL_law0_r7 : List Cond := [Cond.instanceMethod yX4_spanOfEstimates, Cond.selects RX4 yX4_spanOfEstimates yX4_spanOfEstimates, Cond.code yX4_spanOfEstimates cX4_spanOfEstimates 4 (some .int), Cond.methodLink RX4 234 Lib.Math.min.name, Cond.static Lib.Math.min.name, Cond.code Lib.Math.min.name Lib.Math.min.code 2 (some .int), Cond.methodLink RL 159 yX4_spread, Cond.instanceMethod yX4_spread, Cond.selects RX4 yX4_spread yX4_spread, Cond.code yX4_spread cX4_spread 4 (some .int), Cond.methodLink RX4 167 yX4_handHalves, Cond.instanceMethod yX4_handHalves, Cond.selects RX4 yX4_handHalves yX4_handHalves, Cond.code yX4_handHalves cX4_handHalves 4 (some .int), Cond.methodLink RX4 237 yX4_nextReceiver, Cond.instanceMethod yX4_nextReceiver, Cond.selects RX4 yX4_nextReceiver yX4_nextReceiver, Cond.code yX4_nextReceiver cX4_nextReceiver 4 (some .int), Cond.methodLink RX4 240 yX4_handOver, Cond.static yX4_handOver, Cond.code yX4_handOver cX4_handOver 4 none, Cond.methodLink RL 86 yX4_trees, Cond.instanceMethod yX4_trees, Cond.selects RX4 yX4_trees yX4_trees]
def wsL_law0_r8 : List Cond := [Cond.code yX4_trees cX4_trees 1 (some .long), Cond.methodLink RX4 148 yX4_upSet, Cond.instanceMethod yX4_upSet, Cond.selects RX4 yX4_upSet yX4_upSet, Cond.code yX4_upSet cX4_upSet 3 (some .int), Cond.instanceMethod yX3_treesOf, Cond.selects RX3 yX3_treesOf yX3_treesOf, Cond.code yX3_treesOf cX3_treesOf 4 (some .long), Cond.methodLink RX3 16 yJ6_numberOfTrailingZeros_0f7a4, Cond.static yJ6_numberOfTrailingZeros_0f7a4, Cond.code yJ6_numberOfTrailingZeros_0f7a4 cJ6_numberOfTrailingZeros_0f7a4 2 (some .int), Cond.constant RJ6 264 (65536), Cond.static yX1_without, Cond.code yX1_without cX1_without 2 (some .int), Cond.methodLink RX3 28 yX3_fill, Cond.instanceMethod yX3_fill, Cond.selects RX3 yX3_fill yX3_fill, Cond.code yX3_fill cX3_fill 5 (some .int), Cond.methodLink RX3 40 yX3_fillRow, Cond.static yX3_fillRow, Cond.code yX3_fillRow cX3_fillRow 6 none, Cond.constantLong RX3 47 (-1), Cond.methodLink RX3 32 yX3_determinant, Cond.instanceMethod yX3_determinant]
def wsL_law0_r9 : List Cond := [Cond.selects RX3 yX3_determinant yX3_determinant, Cond.code yX3_determinant cX3_determinant 11 (some .long), Cond.methodLink RL 98 yX4_isRigid, Cond.instanceMethod yX4_isRigid, Cond.selects RX4 yX4_isRigid yX4_isRigid, Cond.code yX4_isRigid cX4_isRigid 2 (some .boolean), Cond.methodLink RX4 191 yJ6_bitCount_0f7a4, Cond.methodLink RX4 136 yX4_countGroups, Cond.instanceMethod yX4_countGroups, Cond.selects RX4 yX4_countGroups yX4_countGroups, Cond.code yX4_countGroups cX4_countGroups 4 (some .int), Cond.instanceMethod yX1_groupOf, Cond.selects RX1 yX1_groupOf yX1_groupOf, Cond.code yX1_groupOf cX1_groupOf 6 (some .int), Cond.instanceMethod yX2_rankOf, Cond.selects RX2 yX2_rankOf yX2_rankOf, Cond.code yX2_rankOf cX2_rankOf 5 (some .int), Cond.methodLink RX2 21 yJ7_fill_53178, Cond.methodLink RX2 33 yX2_gatherPebbles, Cond.instanceMethod yX2_gatherPebbles, Cond.selects RX2 yX2_gatherPebbles yX2_gatherPebbles, Cond.code yX2_gatherPebbles cX2_gatherPebbles 4 (some .boolean), Cond.methodLink RX2 40 yX2_fetchPebble, Cond.instanceMethod yX2_fetchPebble]
def wsL_law0_r10 : List Cond := [Cond.selects RX2 yX2_fetchPebble yX2_fetchPebble, Cond.code yX2_fetchPebble cX2_fetchPebble 4 (some .boolean), Cond.methodLink RX2 43 yX2_findPebble, Cond.instanceMethod yX2_findPebble, Cond.selects RX2 yX2_findPebble yX2_findPebble, Cond.code yX2_findPebble cX2_findPebble 9 (some .int), Cond.methodLink RX2 53 yX2_noteWay, Cond.instanceMethod yX2_noteWay, Cond.selects RX2 yX2_noteWay yX2_noteWay, Cond.code yX2_noteWay cX2_noteWay 4 none, Cond.methodLink RX2 57 yX2_holderAmong, Cond.instanceMethod yX2_holderAmong, Cond.selects RX2 yX2_holderAmong yX2_holderAmong, Cond.code yX2_holderAmong cX2_holderAmong 3 (some .int), Cond.methodLink RX2 46 yX2_turnArcs, Cond.instanceMethod yX2_turnArcs, Cond.selects RX2 yX2_turnArcs yX2_turnArcs, Cond.code yX2_turnArcs cX2_turnArcs 5 none, Cond.methodLink RL 168 yL_from, Cond.static yL_from, Cond.code yL_from cL_from 4 (some .int), Cond.constant RL 7 (110969), Cond.constant RL 8 (2147483647), Cond.methodLink RL 172 yX4_addMember]
def wsL_law0_r11 : List Cond := [Cond.instanceMethod yX4_addMember, Cond.selects RX4 yX4_addMember yX4_addMember, Cond.code yX4_addMember cX4_addMember 4 (some .int), Cond.classLink RX4 94 "java/lang/IllegalStateException", Cond.initialized "java/lang/IllegalStateException", Cond.methodLink RX4 90 yX4_requirePlace, Cond.static yX4_requirePlace, Cond.code yX4_requirePlace cX4_requirePlace 2 none, Cond.methodLink RL 175 yL_acts, Cond.static yL_acts, Cond.code yL_acts cL_acts 12 (some .boolean), Cond.methodLink RL 120 yX4_move, Cond.instanceMethod yX4_move, Cond.selects RX4 yX4_move yX4_move, Cond.code yX4_move cX4_move 4 none, Cond.methodLink RX4 101 yX4_requireMember, Cond.instanceMethod yX4_requireMember, Cond.selects RX4 yX4_requireMember yX4_requireMember, Cond.code yX4_requireMember cX4_requireMember 2 none, Cond.classLink RX4 201 "java/lang/IndexOutOfBoundsException", Cond.initialized "java/lang/IndexOutOfBoundsException", Cond.methodLink RL 124 yX4_toggle, Cond.instanceMethod yX4_toggle, Cond.selects RX4 yX4_toggle yX4_toggle]
def wsL_law0_r12 : List Cond := [Cond.code yX4_toggle cX4_toggle 2 (some .boolean), Cond.methodLink RL 127 yX4_setPriority, Cond.instanceMethod yX4_setPriority, Cond.selects RX4 yX4_setPriority yX4_setPriority, Cond.code yX4_setPriority cX4_setPriority 4 (some .int), Cond.methodLink RL 130 yX4_setRange, Cond.instanceMethod yX4_setRange, Cond.selects RX4 yX4_setRange yX4_setRange, Cond.code yX4_setRange cX4_setRange 3 (some .int), Cond.methodLink RL 9 yL_pair, Cond.static yL_pair, Cond.code yL_pair cL_pair 2 (some .int), Cond.methodLink RL 133 yX4_block, Cond.instanceMethod yX4_block, Cond.selects RX4 yX4_block yX4_block, Cond.code yX4_block cX4_block 3 (some .boolean), Cond.methodLink RX4 109 yX4_requireUnlike, Cond.instanceMethod yX4_requireUnlike, Cond.selects RX4 yX4_requireUnlike yX4_requireUnlike, Cond.code yX4_requireUnlike cX4_requireUnlike 3 none, Cond.instanceMethod yX1_cut, Cond.selects RX1 yX1_cut yX1_cut, Cond.code yX1_cut cX1_cut 3 none, Cond.methodLink RX1 25 yX1_without]
def wsL_law0_r13 : List Cond := [Cond.methodLink RL 136 yX4_setEstimate, Cond.instanceMethod yX4_setEstimate, Cond.selects RX4 yX4_setEstimate yX4_setEstimate, Cond.code yX4_setEstimate cX4_setEstimate 4 (some .int), Cond.methodLink RX4 155 yX4_requireValue, Cond.static yX4_requireValue, Cond.code yX4_requireValue cX4_requireValue 1 none, Cond.constant RX4 213 (-1000000), Cond.constant RX4 214 (1000000), Cond.methodLink RL 139 yX4_setSum, Cond.instanceMethod yX4_setSum, Cond.selects RX4 yX4_setSum yX4_setSum, Cond.code yX4_setSum cX4_setSum 4 (some .int), Cond.methodLink RL 142 yX4_want, Cond.instanceMethod yX4_want, Cond.selects RX4 yX4_want yX4_want, Cond.code yX4_want cX4_want 5 (some .int), Cond.constant RX4 170 (8000000), Cond.methodLink RL 146 yL_agreed, Cond.static yL_agreed, Cond.code yL_agreed cL_agreed 10 (some .int), Cond.methodLink RL 19 yL_heard, Cond.static yL_heard, Cond.code yL_heard cL_heard 6 (some .int)]
def wsL_law0_r14 : List Cond := [Cond.methodLink RL 15 yL_square, Cond.static yL_square, Cond.code yL_square cL_square 5 (some .int), Cond.methodLink RL 23 yL_ones, Cond.static yL_ones, Cond.code yL_ones cL_ones 3 (some .int), Cond.methodLink RL 149 yL_spread, Cond.static yL_spread, Cond.code yL_spread cL_spread 10 (some .int), Cond.methodLink RL 152 yL_settle, Cond.static yL_settle, Cond.code yL_settle cL_settle 9 none, Cond.methodLink RL 116 yL_moved, Cond.static yL_moved, Cond.code yL_moved cL_moved 7 (some .int), Cond.constantLong RL 106 (1000000), Cond.constantLong RL 108 (50), Cond.constantLong RL 110 (-50), Cond.constantLong RL 112 (1000), Cond.constantLong RL 114 (-1000), Cond.methodLink RL 161 yX4_settle, Cond.instanceMethod yX4_settle, Cond.selects RX4 yX4_settle yX4_settle, Cond.code yX4_settle cX4_settle 3 (some .int)]
def wsL_law0_r15 : List Cond := [Cond.methodLink RX4 180 yX4_stepTogether, Cond.instanceMethod yX4_stepTogether, Cond.selects RX4 yX4_stepTogether yX4_stepTogether, Cond.code yX4_stepTogether cX4_stepTogether 2 none, Cond.methodLink RX4 244 yX4_stepOf, Cond.instanceMethod yX4_stepOf, Cond.selects RX4 yX4_stepOf yX4_stepOf, Cond.code yX4_stepOf cX4_stepOf 8 (some .int), Cond.constantLong RX4 251 (1000000), Cond.constantLong RX4 253 (-50), Cond.constantLong RX4 255 (50), Cond.methodLink RX4 257 Lib.MathLoose.min_long.x, Cond.static Lib.MathLoose.min_long.x, Cond.code Lib.MathLoose.min_long.x Lib.MathLoose.min_long.code 4 (some .long), Cond.methodLink RX4 260 Lib.MathLoose.max_long.x, Cond.static Lib.MathLoose.max_long.x, Cond.code Lib.MathLoose.max_long.x Lib.MathLoose.max_long.code 4 (some .long), Cond.methodLink RX4 171 yX4_excessOf, Cond.instanceMethod yX4_excessOf, Cond.selects RX4 yX4_excessOf yX4_excessOf, Cond.code yX4_excessOf cX4_excessOf 3 (some .int), Cond.methodLink RX4 248 yX4_keptOnPlane, Cond.static yX4_keptOnPlane, Cond.code yX4_keptOnPlane cX4_keptOnPlane 1 (some .int)]
def wsL_law0_r16 : List Cond := [Cond.methodLink RX4 183 yX4_error, Cond.instanceMethod yX4_error, Cond.selects RX4 yX4_error yX4_error, Cond.code yX4_error cX4_error 4 (some .int), Cond.methodLink RX4 175 Lib.Math.abs.name, Cond.static Lib.Math.abs.name, Cond.code Lib.Math.abs.name Lib.Math.abs.code 1 (some .int), Cond.methodLink RL 163 yL_error, Cond.static yL_error, Cond.code yL_error cL_error 7 (some .int), Cond.methodLink RL 179 yL_isLinked, Cond.static yL_isLinked, Cond.code yL_isLinked cL_isLinked 11 (some .boolean), Cond.methodLink RL 34 yL_links, Cond.static yL_links, Cond.code yL_links cL_links 5 (some .int), Cond.methodLink RL 38 yX4_links, Cond.instanceMethod yX4_links, Cond.selects RX4 yX4_links yX4_links, Cond.code yX4_links cX4_links 1 (some .int), Cond.instanceMethod yX1_pairCount, Cond.selects RX1 yX1_pairCount yX1_pairCount, Cond.code yX1_pairCount cX1_pairCount 3 (some .int), Cond.methodLink RX1 38 yX1_degreeOf]
def wsL_law0_r17 : List Cond := [Cond.methodLink RL 43 yX4_members, Cond.instanceMethod yX4_members, Cond.selects RX4 yX4_members yX4_members, Cond.code yX4_members cX4_members 1 (some .int), Cond.methodLink RL 31 yL_group, Cond.static yL_group, Cond.code yL_group cL_group 6 (some .int), Cond.methodLink RL 46 yX4_areLinked, Cond.instanceMethod yX4_areLinked, Cond.selects RX4 yX4_areLinked yX4_areLinked, Cond.code yX4_areLinked cX4_areLinked 3 (some .boolean), Cond.methodLink RL 50 yX4_degree, Cond.instanceMethod yX4_degree, Cond.selects RX4 yX4_degree yX4_degree, Cond.code yX4_degree cX4_degree 2 (some .int), Cond.methodLink RL 53 yX4_leader, Cond.instanceMethod yX4_leader, Cond.selects RX4 yX4_leader yX4_leader, Cond.code yX4_leader cX4_leader 5 (some .int), Cond.methodLink RX4 145 yX4_outranks, Cond.instanceMethod yX4_outranks, Cond.selects RX4 yX4_outranks yX4_outranks, Cond.code yX4_outranks cX4_outranks 3 (some .boolean), Cond.methodLink RL 56 yX4_xOf]
def wsL_law0_r18 : List Cond := [Cond.instanceMethod yX4_xOf, Cond.selects RX4 yX4_xOf yX4_xOf, Cond.code yX4_xOf cX4_xOf 2 (some .int), Cond.methodLink RL 59 yX4_yOf, Cond.instanceMethod yX4_yOf, Cond.selects RX4 yX4_yOf yX4_yOf, Cond.code yX4_yOf cX4_yOf 2 (some .int), Cond.methodLink RL 62 yX4_estimate, Cond.instanceMethod yX4_estimate, Cond.selects RX4 yX4_estimate yX4_estimate, Cond.code yX4_estimate cX4_estimate 2 (some .int), Cond.methodLink RL 65 yX4_sum, Cond.instanceMethod yX4_sum, Cond.selects RX4 yX4_sum yX4_sum, Cond.code yX4_sum cX4_sum 2 (some .int), Cond.methodLink RL 68 yX4_weight, Cond.instanceMethod yX4_weight, Cond.selects RX4 yX4_weight yX4_weight, Cond.code yX4_weight cX4_weight 2 (some .int), Cond.methodLink RL 71 yX4_groups, Cond.instanceMethod yX4_groups, Cond.selects RX4 yX4_groups yX4_groups, Cond.code yX4_groups cX4_groups 1 (some .int), Cond.methodLink RL 183 yX4_error]
def wsL_law0_r19 : List Cond := [Cond.methodLink RL 185 yL_isFigure, Cond.static yL_isFigure, Cond.code yL_isFigure cL_isFigure 13 (some .boolean), Cond.methodLink RL 79 yL_rank, Cond.static yL_rank, Cond.code yL_rank cL_rank 3 (some .int), Cond.methodLink RL 27 yL_isFree, Cond.static yL_isFree, Cond.code yL_isFree cL_isFree 4 (some .boolean), Cond.methodLink RL 82 yL_up, Cond.static yL_up, Cond.code yL_up cL_up 3 (some .int), Cond.methodLink RL 90 yL_trees, Cond.static yL_trees, Cond.code yL_trees cL_trees 6 (some .long), Cond.methodLink RL 93 yX4_rank, Cond.instanceMethod yX4_rank, Cond.selects RX4 yX4_rank yX4_rank, Cond.code yX4_rank cX4_rank 1 (some .int), Cond.methodLink RL 95 yX4_rankByCounting, Cond.instanceMethod yX4_rankByCounting, Cond.selects RX4 yX4_rankByCounting yX4_rankByCounting, Cond.code yX4_rankByCounting cX4_rankByCounting 1 (some .int), Cond.instanceMethod yX0_rankOf]
def wsL_law0_r20 : List Cond := [Cond.selects RX0 yX0_rankOf yX0_rankOf, Cond.code yX0_rankOf cX0_rankOf 6 (some .int), Cond.methodLink RX0 15 yJ7_fill_53178, Cond.methodLink RX0 31 yX0_leavesFree, Cond.instanceMethod yX0_leavesFree, Cond.selects RX0 yX0_leavesFree yX0_leavesFree, Cond.code yX0_leavesFree cX0_leavesFree 4 (some .boolean), Cond.methodLink RX0 39 yJ6_bitCount_0f7a4, Cond.methodLink RX0 35 yX0_keepLink, Cond.instanceMethod yX0_keepLink, Cond.selects RX0 yX0_keepLink yX0_keepLink, Cond.code yX0_keepLink cX0_keepLink 3 none, Cond.methodLink RL 102 yL_spare, Cond.static yL_spare, Cond.codeWith yL_spare cL_spare 4 (some .int) [(0, 14, 15, 77)], Cond.classLink RL 77 "java/util/NoSuchElementException", Cond.methodLink RL 74 yX4_isSpare, Cond.instanceMethod yX4_isSpare, Cond.selects RX4 yX4_isSpare yX4_isSpare, Cond.code yX4_isSpare cX4_isSpare 4 (some .boolean), Cond.classLink RX4 196 "java/util/NoSuchElementException", Cond.initialized "java/util/NoSuchElementException"]
def wsL_law0 : List Cond := (wsL_law0_r1 ++ (wsL_law0_r2 ++ (wsL_law0_r3 ++ (wsL_law0_r4 ++ (wsL_law0_r5 ++ (wsL_law0_r6 ++ (wsL_law0_r7 ++ (wsL_law0_r8 ++ (wsL_law0_r9 ++ (wsL_law0_r10 ++ (wsL_law0_r11 ++ (wsL_law0_r12 ++ (wsL_law0_r13 ++ (wsL_law0_r14 ++ (wsL_law0_r15 ++ (wsL_law0_r16 ++ (wsL_law0_r17 ++ (wsL_law0_r18 ++ (wsL_law0_r19 ++ wsL_law0_r20))))))))))))))))))) ++ wsX40 ++ wsX10 ++ wsX20 ++ wsX00 ++ wsX30 ++ ([] : List Cond)
def wsL_law : List Cond := wsL_law0 ++ (vx_atS RX4 210 "java/lang/IllegalArgumentException" ["java/lang/RuntimeException", "java/lang/Exception"]).filter goodWord ++ (vx_atS RX4 98 "java/lang/IllegalStateException" ["java/lang/RuntimeException", "java/lang/Exception"]).filter goodWord ++ (vx_atS RX4 205 "java/lang/IndexOutOfBoundsException" ["java/lang/RuntimeException", "java/lang/Exception"]).filter goodWord ++ fx_at200.filter goodWord
theorem inJx145de : ∀ w ∈ wsJx145de0, w ∈ lw_tbl := by decide +kernel
theorem inJ6 : ∀ w ∈ wsJ60, w ∈ lw_tbl := by decide +kernel
theorem inJ9 : ∀ w ∈ wsJ90, w ∈ lw_tbl := by decide +kernel
theorem inJ0 : ∀ w ∈ wsJ00, w ∈ lw_tbl := by decide +kernel
theorem inJ7 : ∀ w ∈ wsJ70, w ∈ lw_tbl := by decide +kernel
abbrev vwCl : List vw_C := [(RX0, TX0, 1), (RX1, TX1, 1), (RX2, TX2, 3), (RX3, TX3, 1), (RX4, TX4, 18)]
end
section
theorem dX0_init_0 : decode cX0_init 0 = .ok (.aload_n 0, 1) := by decide +kernel
theorem dX0_init_1 : decode cX0_init 1 = .ok (.invokespecial 3, 3) := by decide +kernel
theorem dX0_init_4 : decode cX0_init 4 = .ok (.aload_n 0, 1) := by decide +kernel
theorem dX0_init_5 : decode cX0_init 5 = .ok (.sipush 256, 3) := by decide +kernel
theorem dX0_init_8 : decode cX0_init 8 = .ok (.newarray .int, 2) := by decide +kernel
theorem dX0_init_10 : decode cX0_init 10 = .ok (.putfield 11, 3) := by decide +kernel
theorem dX0_init_13 : decode cX0_init 13 = .ok (.return_, 1) := by decide +kernel
set_option maxRecDepth 20000 in
theorem ggX0_rankOf_J7_fill_53178 : GoodIn wsX0_rankOf wsJ7_fill_53178 := goodIn_r _ [5] (by decide +kernel) (by decide +kernel)
set_option maxRecDepth 20000 in
theorem gX0_rankOf_J7_fill_53178 : GoodIn wsX0_rankOf (va_wsS RX0 15 yJ7_fill_53178 wsJ7_fill_53178) := goodIn_app (goodIn_of _ (by decide +kernel)) ggX0_rankOf_J7_fill_53178
set_option maxRecDepth 20000 in
theorem ggX0_rankOf_X1_with : GoodIn wsX0_rankOf wsX1_with := goodIn_r _ [8] (by decide +kernel) (by decide +kernel)
set_option maxRecDepth 20000 in
theorem gX0_rankOf_X1_with_n21 : GoodIn wsX0_rankOf (wsX1_with) := ggX0_rankOf_X1_with
set_option maxRecDepth 20000 in
theorem ggX0_rankOf_X1_joins : GoodIn wsX0_rankOf wsX1_joins := goodIn_r _ [11, 12, 13, 14, 7, 15, 33] (by decide +kernel) (by decide +kernel)
set_option maxRecDepth 20000 in
theorem gX0_rankOf_X1_joins_n27 : GoodIn wsX0_rankOf (wsX1_joins) := ggX0_rankOf_X1_joins
set_option maxRecDepth 20000 in
theorem ggX0_rankOf_X0_leavesFree : GoodIn wsX0_rankOf wsX0_leavesFree := goodIn_r _ [20, 1, 21, 22, 23, 24, 25, 26, 27, 32] (by decide +kernel) (by decide +kernel)
set_option maxRecDepth 20000 in
theorem gX0_rankOf_X0_leavesFree : GoodIn wsX0_rankOf (wsV RX0 31 RX0 yX0_leavesFree wsX0_leavesFree) := goodIn_app (goodIn_of _ (by decide +kernel)) ggX0_rankOf_X0_leavesFree
set_option maxRecDepth 20000 in
theorem ggX0_rankOf_X0_keepLink : GoodIn wsX0_rankOf wsX0_keepLink := goodIn_r _ [31, 1, 32] (by decide +kernel) (by decide +kernel)
set_option maxRecDepth 20000 in
theorem gX0_rankOf_X0_keepLink : GoodIn wsX0_rankOf (wsV RX0 35 RX0 yX0_keepLink wsX0_keepLink) := goodIn_app (goodIn_of _ (by decide +kernel)) ggX0_rankOf_X0_keepLink
theorem dX0_rankOf_0 : decode cX0_rankOf 0 = .ok (.aload_n 0, 1) := by decide +kernel
theorem dX0_rankOf_1 : decode cX0_rankOf 1 = .ok (.getfield 11, 3) := by decide +kernel
theorem dX0_rankOf_4 : decode cX0_rankOf 4 = .ok (.iconst 0, 1) := by decide +kernel
theorem dX0_rankOf_5 : decode cX0_rankOf 5 = .ok (.invokestatic 15, 3) := by decide +kernel
theorem dX0_rankOf_8 : decode cX0_rankOf 8 = .ok (.iconst 0, 1) := by decide +kernel
theorem dX0_rankOf_9 : decode cX0_rankOf 9 = .ok (.istore_n 2, 1) := by decide +kernel
theorem dX0_rankOf_10 : decode cX0_rankOf 10 = .ok (.iconst 0, 1) := by decide +kernel
theorem dX0_rankOf_11 : decode cX0_rankOf 11 = .ok (.istore_n 3, 1) := by decide +kernel
theorem dX0_rankOf_12 : decode cX0_rankOf 12 = .ok (.iload_n 3, 1) := by decide +kernel
theorem dX0_rankOf_13 : decode cX0_rankOf 13 = .ok (.bipush 8, 2) := by decide +kernel
theorem dX0_rankOf_15 : decode cX0_rankOf 15 = .ok (.if_icmp .ge 64, 3) := by decide +kernel
theorem dX0_rankOf_18 : decode cX0_rankOf 18 = .ok (.iconst 0, 1) := by decide +kernel
theorem dX0_rankOf_19 : decode cX0_rankOf 19 = .ok (.istore 4, 2) := by decide +kernel
theorem dX0_rankOf_21 : decode cX0_rankOf 21 = .ok (.iload 4, 2) := by decide +kernel
theorem dX0_rankOf_23 : decode cX0_rankOf 23 = .ok (.iload_n 3, 1) := by decide +kernel
theorem dX0_rankOf_24 : decode cX0_rankOf 24 = .ok (.if_icmp .ge 49, 3) := by decide +kernel
theorem dX0_rankOf_27 : decode cX0_rankOf 27 = .ok (.iconst 0, 1) := by decide +kernel
theorem dX0_rankOf_28 : decode cX0_rankOf 28 = .ok (.iload_n 3, 1) := by decide +kernel
theorem dX0_rankOf_29 : decode cX0_rankOf 29 = .ok (.invokestatic 21, 3) := by decide +kernel
theorem dX0_rankOf_32 : decode cX0_rankOf 32 = .ok (.iload 4, 2) := by decide +kernel
theorem dX0_rankOf_34 : decode cX0_rankOf 34 = .ok (.invokestatic 21, 3) := by decide +kernel
theorem dX0_rankOf_37 : decode cX0_rankOf 37 = .ok (.istore 5, 2) := by decide +kernel
theorem dX0_rankOf_39 : decode cX0_rankOf 39 = .ok (.aload_n 1, 1) := by decide +kernel
theorem dX0_rankOf_40 : decode cX0_rankOf 40 = .ok (.iload_n 3, 1) := by decide +kernel
theorem dX0_rankOf_41 : decode cX0_rankOf 41 = .ok (.iload 4, 2) := by decide +kernel
theorem dX0_rankOf_43 : decode cX0_rankOf 43 = .ok (.invokevirtual 27, 3) := by decide +kernel
theorem dX0_rankOf_46 : decode cX0_rankOf 46 = .ok (.ifCond .eq 21, 3) := by decide +kernel
theorem dX0_rankOf_49 : decode cX0_rankOf 49 = .ok (.aload_n 0, 1) := by decide +kernel
theorem dX0_rankOf_50 : decode cX0_rankOf 50 = .ok (.iload 5, 2) := by decide +kernel
theorem dX0_rankOf_52 : decode cX0_rankOf 52 = .ok (.invokevirtual 31, 3) := by decide +kernel
theorem dX0_rankOf_55 : decode cX0_rankOf 55 = .ok (.ifCond .eq 12, 3) := by decide +kernel
theorem dX0_rankOf_58 : decode cX0_rankOf 58 = .ok (.aload_n 0, 1) := by decide +kernel
theorem dX0_rankOf_59 : decode cX0_rankOf 59 = .ok (.iload 5, 2) := by decide +kernel
theorem dX0_rankOf_61 : decode cX0_rankOf 61 = .ok (.invokevirtual 35, 3) := by decide +kernel
theorem dX0_rankOf_64 : decode cX0_rankOf 64 = .ok (.iinc 2 1, 3) := by decide +kernel
theorem dX0_rankOf_67 : decode cX0_rankOf 67 = .ok (.iinc 4 1, 3) := by decide +kernel
theorem dX0_rankOf_70 : decode cX0_rankOf 70 = .ok (.goto (-49), 3) := by decide +kernel
theorem dX0_rankOf_73 : decode cX0_rankOf 73 = .ok (.iinc 3 1, 3) := by decide +kernel
theorem dX0_rankOf_76 : decode cX0_rankOf 76 = .ok (.goto (-64), 3) := by decide +kernel
theorem dX0_rankOf_79 : decode cX0_rankOf 79 = .ok (.iload_n 2, 1) := by decide +kernel
theorem dX0_rankOf_80 : decode cX0_rankOf 80 = .ok (.ireturn, 1) := by decide +kernel
set_option maxRecDepth 20000 in
theorem ggX0_leavesFree_J6_bitCount_0f7a4 : GoodIn wsX0_leavesFree wsJ6_bitCount_0f7a4 := goodIn_r _ [5, 6, 7, 8] (by decide +kernel) (by decide +kernel)
set_option maxRecDepth 20000 in
theorem gX0_leavesFree_J6_bitCount_0f7a4 : GoodIn wsX0_leavesFree (va_wsS RX0 39 yJ6_bitCount_0f7a4 wsJ6_bitCount_0f7a4) := goodIn_app (goodIn_of _ (by decide +kernel)) ggX0_leavesFree_J6_bitCount_0f7a4
theorem dX0_leavesFree_0 : decode cX0_leavesFree 0 = .ok (.iload_n 1, 1) := by decide +kernel
theorem dX0_leavesFree_1 : decode cX0_leavesFree 1 = .ok (.istore_n 2, 1) := by decide +kernel
theorem dX0_leavesFree_2 : decode cX0_leavesFree 2 = .ok (.iload_n 2, 1) := by decide +kernel
theorem dX0_leavesFree_3 : decode cX0_leavesFree 3 = .ok (.sipush 256, 3) := by decide +kernel
theorem dX0_leavesFree_6 : decode cX0_leavesFree 6 = .ok (.if_icmp .ge 45, 3) := by decide +kernel
theorem dX0_leavesFree_9 : decode cX0_leavesFree 9 = .ok (.iload_n 2, 1) := by decide +kernel
theorem dX0_leavesFree_10 : decode cX0_leavesFree 10 = .ok (.iload_n 1, 1) := by decide +kernel
theorem dX0_leavesFree_11 : decode cX0_leavesFree 11 = .ok (.iand, 1) := by decide +kernel
theorem dX0_leavesFree_12 : decode cX0_leavesFree 12 = .ok (.iload_n 1, 1) := by decide +kernel
theorem dX0_leavesFree_13 : decode cX0_leavesFree 13 = .ok (.if_icmp .ne 7, 3) := by decide +kernel
theorem dX0_leavesFree_16 : decode cX0_leavesFree 16 = .ok (.iconst 1, 1) := by decide +kernel
theorem dX0_leavesFree_17 : decode cX0_leavesFree 17 = .ok (.goto 4, 3) := by decide +kernel
theorem dX0_leavesFree_20 : decode cX0_leavesFree 20 = .ok (.iconst 0, 1) := by decide +kernel
theorem dX0_leavesFree_21 : decode cX0_leavesFree 21 = .ok (.istore_n 3, 1) := by decide +kernel
theorem dX0_leavesFree_22 : decode cX0_leavesFree 22 = .ok (.iload_n 3, 1) := by decide +kernel
theorem dX0_leavesFree_23 : decode cX0_leavesFree 23 = .ok (.ifCond .eq 22, 3) := by decide +kernel
theorem dX0_leavesFree_26 : decode cX0_leavesFree 26 = .ok (.aload_n 0, 1) := by decide +kernel
theorem dX0_leavesFree_27 : decode cX0_leavesFree 27 = .ok (.getfield 11, 3) := by decide +kernel
theorem dX0_leavesFree_30 : decode cX0_leavesFree 30 = .ok (.iload_n 2, 1) := by decide +kernel
theorem dX0_leavesFree_31 : decode cX0_leavesFree 31 = .ok (.iaload, 1) := by decide +kernel
theorem dX0_leavesFree_32 : decode cX0_leavesFree 32 = .ok (.iconst 2, 1) := by decide +kernel
theorem dX0_leavesFree_33 : decode cX0_leavesFree 33 = .ok (.iload_n 2, 1) := by decide +kernel
theorem dX0_leavesFree_34 : decode cX0_leavesFree 34 = .ok (.invokestatic 39, 3) := by decide +kernel
theorem dX0_leavesFree_37 : decode cX0_leavesFree 37 = .ok (.imul, 1) := by decide +kernel
theorem dX0_leavesFree_38 : decode cX0_leavesFree 38 = .ok (.iconst 3, 1) := by decide +kernel
theorem dX0_leavesFree_39 : decode cX0_leavesFree 39 = .ok (.isub, 1) := by decide +kernel
theorem dX0_leavesFree_40 : decode cX0_leavesFree 40 = .ok (.if_icmp .lt 5, 3) := by decide +kernel
theorem dX0_leavesFree_43 : decode cX0_leavesFree 43 = .ok (.iconst 0, 1) := by decide +kernel
theorem dX0_leavesFree_44 : decode cX0_leavesFree 44 = .ok (.ireturn, 1) := by decide +kernel
theorem dX0_leavesFree_45 : decode cX0_leavesFree 45 = .ok (.iinc 2 1, 3) := by decide +kernel
theorem dX0_leavesFree_48 : decode cX0_leavesFree 48 = .ok (.goto (-46), 3) := by decide +kernel
theorem dX0_leavesFree_51 : decode cX0_leavesFree 51 = .ok (.iconst 1, 1) := by decide +kernel
theorem dX0_leavesFree_52 : decode cX0_leavesFree 52 = .ok (.ireturn, 1) := by decide +kernel
theorem dX0_keepLink_0 : decode cX0_keepLink 0 = .ok (.iload_n 1, 1) := by decide +kernel
theorem dX0_keepLink_1 : decode cX0_keepLink 1 = .ok (.istore_n 2, 1) := by decide +kernel
theorem dX0_keepLink_2 : decode cX0_keepLink 2 = .ok (.iload_n 2, 1) := by decide +kernel
theorem dX0_keepLink_3 : decode cX0_keepLink 3 = .ok (.sipush 256, 3) := by decide +kernel
theorem dX0_keepLink_6 : decode cX0_keepLink 6 = .ok (.if_icmp .ge 26, 3) := by decide +kernel
theorem dX0_keepLink_9 : decode cX0_keepLink 9 = .ok (.iload_n 2, 1) := by decide +kernel
theorem dX0_keepLink_10 : decode cX0_keepLink 10 = .ok (.iload_n 1, 1) := by decide +kernel
theorem dX0_keepLink_11 : decode cX0_keepLink 11 = .ok (.iand, 1) := by decide +kernel
theorem dX0_keepLink_12 : decode cX0_keepLink 12 = .ok (.iload_n 1, 1) := by decide +kernel
theorem dX0_keepLink_13 : decode cX0_keepLink 13 = .ok (.if_icmp .ne 13, 3) := by decide +kernel
theorem dX0_keepLink_16 : decode cX0_keepLink 16 = .ok (.aload_n 0, 1) := by decide +kernel
theorem dX0_keepLink_17 : decode cX0_keepLink 17 = .ok (.getfield 11, 3) := by decide +kernel
theorem dX0_keepLink_20 : decode cX0_keepLink 20 = .ok (.iload_n 2, 1) := by decide +kernel
theorem dX0_keepLink_21 : decode cX0_keepLink 21 = .ok (.dup2, 1) := by decide +kernel
theorem dX0_keepLink_22 : decode cX0_keepLink 22 = .ok (.iaload, 1) := by decide +kernel
theorem dX0_keepLink_23 : decode cX0_keepLink 23 = .ok (.iconst 1, 1) := by decide +kernel
theorem dX0_keepLink_24 : decode cX0_keepLink 24 = .ok (.iadd, 1) := by decide +kernel
theorem dX0_keepLink_25 : decode cX0_keepLink 25 = .ok (.iastore, 1) := by decide +kernel
theorem dX0_keepLink_26 : decode cX0_keepLink 26 = .ok (.iinc 2 1, 3) := by decide +kernel
theorem dX0_keepLink_29 : decode cX0_keepLink 29 = .ok (.goto (-27), 3) := by decide +kernel
theorem dX0_keepLink_32 : decode cX0_keepLink 32 = .ok (.return_, 1) := by decide +kernel
theorem dX1_init_0 : decode cX1_init 0 = .ok (.aload_n 0, 1) := by decide +kernel
theorem dX1_init_1 : decode cX1_init 1 = .ok (.invokespecial 3, 3) := by decide +kernel
theorem dX1_init_4 : decode cX1_init 4 = .ok (.aload_n 0, 1) := by decide +kernel
theorem dX1_init_5 : decode cX1_init 5 = .ok (.bipush 8, 2) := by decide +kernel
theorem dX1_init_7 : decode cX1_init 7 = .ok (.newarray .int, 2) := by decide +kernel
theorem dX1_init_9 : decode cX1_init 9 = .ok (.putfield 9, 3) := by decide +kernel
theorem dX1_init_12 : decode cX1_init 12 = .ok (.return_, 1) := by decide +kernel
theorem dX1_holds_0 : decode cX1_holds 0 = .ok (.iload_n 0, 1) := by decide +kernel
theorem dX1_holds_1 : decode cX1_holds 1 = .ok (.iconst 1, 1) := by decide +kernel
theorem dX1_holds_2 : decode cX1_holds 2 = .ok (.iload_n 1, 1) := by decide +kernel
theorem dX1_holds_3 : decode cX1_holds 3 = .ok (.ishl, 1) := by decide +kernel
theorem dX1_holds_4 : decode cX1_holds 4 = .ok (.iand, 1) := by decide +kernel
theorem dX1_holds_5 : decode cX1_holds 5 = .ok (.ifCond .eq 7, 3) := by decide +kernel
theorem dX1_holds_8 : decode cX1_holds 8 = .ok (.iconst 1, 1) := by decide +kernel
theorem dX1_holds_9 : decode cX1_holds 9 = .ok (.goto 4, 3) := by decide +kernel
theorem dX1_holds_12 : decode cX1_holds 12 = .ok (.iconst 0, 1) := by decide +kernel
theorem dX1_holds_13 : decode cX1_holds 13 = .ok (.ireturn, 1) := by decide +kernel
theorem dX1_with_0 : decode cX1_with 0 = .ok (.iload_n 0, 1) := by decide +kernel
theorem dX1_with_1 : decode cX1_with 1 = .ok (.iconst 1, 1) := by decide +kernel
theorem dX1_with_2 : decode cX1_with 2 = .ok (.iload_n 1, 1) := by decide +kernel
theorem dX1_with_3 : decode cX1_with 3 = .ok (.ishl, 1) := by decide +kernel
theorem dX1_with_4 : decode cX1_with 4 = .ok (.ior, 1) := by decide +kernel
theorem dX1_with_5 : decode cX1_with 5 = .ok (.ireturn, 1) := by decide +kernel
theorem dX1_without_0 : decode cX1_without 0 = .ok (.iload_n 0, 1) := by decide +kernel
theorem dX1_without_1 : decode cX1_without 1 = .ok (.iconst 1, 1) := by decide +kernel
theorem dX1_without_2 : decode cX1_without 2 = .ok (.iload_n 1, 1) := by decide +kernel
theorem dX1_without_3 : decode cX1_without 3 = .ok (.ishl, 1) := by decide +kernel
theorem dX1_without_4 : decode cX1_without 4 = .ok (.iconst (-1), 1) := by decide +kernel
theorem dX1_without_5 : decode cX1_without 5 = .ok (.ixor, 1) := by decide +kernel
theorem dX1_without_6 : decode cX1_without 6 = .ok (.iand, 1) := by decide +kernel
theorem dX1_without_7 : decode cX1_without 7 = .ok (.ireturn, 1) := by decide +kernel
set_option maxRecDepth 20000 in
theorem ggX1_clear_J7_fill_53178 : GoodIn wsX1_clear wsJ7_fill_53178 := goodIn_r _ [5] (by decide +kernel) (by decide +kernel)
set_option maxRecDepth 20000 in
theorem gX1_clear_J7_fill_53178 : GoodIn wsX1_clear (va_wsS RX1 15 yJ7_fill_53178 wsJ7_fill_53178) := goodIn_app (goodIn_of _ (by decide +kernel)) ggX1_clear_J7_fill_53178
theorem dX1_clear_0 : decode cX1_clear 0 = .ok (.aload_n 0, 1) := by decide +kernel
theorem dX1_clear_1 : decode cX1_clear 1 = .ok (.getfield 9, 3) := by decide +kernel
theorem dX1_clear_4 : decode cX1_clear 4 = .ok (.iconst 0, 1) := by decide +kernel
theorem dX1_clear_5 : decode cX1_clear 5 = .ok (.invokestatic 15, 3) := by decide +kernel
theorem dX1_clear_8 : decode cX1_clear 8 = .ok (.return_, 1) := by decide +kernel
set_option maxRecDepth 20000 in
theorem ggX1_join_X1_with : GoodIn wsX1_join wsX1_with := goodIn_r _ [5] (by decide +kernel) (by decide +kernel)
set_option maxRecDepth 20000 in
theorem gX1_join_X1_with : GoodIn wsX1_join (va_wsS RX1 21 yX1_with wsX1_with) := goodIn_app (goodIn_of _ (by decide +kernel)) ggX1_join_X1_with
theorem dX1_join_0 : decode cX1_join 0 = .ok (.aload_n 0, 1) := by decide +kernel
theorem dX1_join_1 : decode cX1_join 1 = .ok (.getfield 9, 3) := by decide +kernel
theorem dX1_join_4 : decode cX1_join 4 = .ok (.iload_n 1, 1) := by decide +kernel
theorem dX1_join_5 : decode cX1_join 5 = .ok (.aload_n 0, 1) := by decide +kernel
theorem dX1_join_6 : decode cX1_join 6 = .ok (.getfield 9, 3) := by decide +kernel
theorem dX1_join_9 : decode cX1_join 9 = .ok (.iload_n 1, 1) := by decide +kernel
theorem dX1_join_10 : decode cX1_join 10 = .ok (.iaload, 1) := by decide +kernel
theorem dX1_join_11 : decode cX1_join 11 = .ok (.iload_n 2, 1) := by decide +kernel
theorem dX1_join_12 : decode cX1_join 12 = .ok (.invokestatic 21, 3) := by decide +kernel
theorem dX1_join_15 : decode cX1_join 15 = .ok (.iastore, 1) := by decide +kernel
theorem dX1_join_16 : decode cX1_join 16 = .ok (.aload_n 0, 1) := by decide +kernel
theorem dX1_join_17 : decode cX1_join 17 = .ok (.getfield 9, 3) := by decide +kernel
theorem dX1_join_20 : decode cX1_join 20 = .ok (.iload_n 2, 1) := by decide +kernel
theorem dX1_join_21 : decode cX1_join 21 = .ok (.aload_n 0, 1) := by decide +kernel
theorem dX1_join_22 : decode cX1_join 22 = .ok (.getfield 9, 3) := by decide +kernel
theorem dX1_join_25 : decode cX1_join 25 = .ok (.iload_n 2, 1) := by decide +kernel
theorem dX1_join_26 : decode cX1_join 26 = .ok (.iaload, 1) := by decide +kernel
theorem dX1_join_27 : decode cX1_join 27 = .ok (.iload_n 1, 1) := by decide +kernel
theorem dX1_join_28 : decode cX1_join 28 = .ok (.invokestatic 21, 3) := by decide +kernel
theorem dX1_join_31 : decode cX1_join 31 = .ok (.iastore, 1) := by decide +kernel
theorem dX1_join_32 : decode cX1_join 32 = .ok (.return_, 1) := by decide +kernel
set_option maxRecDepth 20000 in
theorem ggX1_cut_X1_without : GoodIn wsX1_cut wsX1_without := goodIn_r _ [5] (by decide +kernel) (by decide +kernel)
set_option maxRecDepth 20000 in
theorem gX1_cut_X1_without : GoodIn wsX1_cut (va_wsS RX1 25 yX1_without wsX1_without) := goodIn_app (goodIn_of _ (by decide +kernel)) ggX1_cut_X1_without
theorem dX1_cut_0 : decode cX1_cut 0 = .ok (.aload_n 0, 1) := by decide +kernel
theorem dX1_cut_1 : decode cX1_cut 1 = .ok (.getfield 9, 3) := by decide +kernel
theorem dX1_cut_4 : decode cX1_cut 4 = .ok (.iload_n 1, 1) := by decide +kernel
theorem dX1_cut_5 : decode cX1_cut 5 = .ok (.aload_n 0, 1) := by decide +kernel
theorem dX1_cut_6 : decode cX1_cut 6 = .ok (.getfield 9, 3) := by decide +kernel
theorem dX1_cut_9 : decode cX1_cut 9 = .ok (.iload_n 1, 1) := by decide +kernel
theorem dX1_cut_10 : decode cX1_cut 10 = .ok (.iaload, 1) := by decide +kernel
theorem dX1_cut_11 : decode cX1_cut 11 = .ok (.iload_n 2, 1) := by decide +kernel
theorem dX1_cut_12 : decode cX1_cut 12 = .ok (.invokestatic 25, 3) := by decide +kernel
theorem dX1_cut_15 : decode cX1_cut 15 = .ok (.iastore, 1) := by decide +kernel
theorem dX1_cut_16 : decode cX1_cut 16 = .ok (.aload_n 0, 1) := by decide +kernel
theorem dX1_cut_17 : decode cX1_cut 17 = .ok (.getfield 9, 3) := by decide +kernel
theorem dX1_cut_20 : decode cX1_cut 20 = .ok (.iload_n 2, 1) := by decide +kernel
theorem dX1_cut_21 : decode cX1_cut 21 = .ok (.aload_n 0, 1) := by decide +kernel
theorem dX1_cut_22 : decode cX1_cut 22 = .ok (.getfield 9, 3) := by decide +kernel
theorem dX1_cut_25 : decode cX1_cut 25 = .ok (.iload_n 2, 1) := by decide +kernel
theorem dX1_cut_26 : decode cX1_cut 26 = .ok (.iaload, 1) := by decide +kernel
theorem dX1_cut_27 : decode cX1_cut 27 = .ok (.iload_n 1, 1) := by decide +kernel
theorem dX1_cut_28 : decode cX1_cut 28 = .ok (.invokestatic 25, 3) := by decide +kernel
theorem dX1_cut_31 : decode cX1_cut 31 = .ok (.iastore, 1) := by decide +kernel
theorem dX1_cut_32 : decode cX1_cut 32 = .ok (.return_, 1) := by decide +kernel
set_option maxRecDepth 20000 in
theorem ggX1_joins_X1_holds : GoodIn wsX1_joins wsX1_holds := goodIn_r _ [5] (by decide +kernel) (by decide +kernel)
set_option maxRecDepth 20000 in
theorem gX1_joins_X1_holds : GoodIn wsX1_joins (va_wsS RX1 28 yX1_holds wsX1_holds) := goodIn_app (goodIn_of _ (by decide +kernel)) ggX1_joins_X1_holds
theorem dX1_joins_0 : decode cX1_joins 0 = .ok (.aload_n 0, 1) := by decide +kernel
theorem dX1_joins_1 : decode cX1_joins 1 = .ok (.getfield 9, 3) := by decide +kernel
theorem dX1_joins_4 : decode cX1_joins 4 = .ok (.iload_n 1, 1) := by decide +kernel
theorem dX1_joins_5 : decode cX1_joins 5 = .ok (.iaload, 1) := by decide +kernel
theorem dX1_joins_6 : decode cX1_joins 6 = .ok (.iload_n 2, 1) := by decide +kernel
theorem dX1_joins_7 : decode cX1_joins 7 = .ok (.invokestatic 28, 3) := by decide +kernel
theorem dX1_joins_10 : decode cX1_joins 10 = .ok (.ireturn, 1) := by decide +kernel
set_option maxRecDepth 20000 in
theorem ggX1_degreeOf_J6_bitCount_0f7a4 : GoodIn wsX1_degreeOf wsJ6_bitCount_0f7a4 := goodIn_r _ [5, 6, 7, 8] (by decide +kernel) (by decide +kernel)
set_option maxRecDepth 20000 in
theorem gX1_degreeOf_J6_bitCount_0f7a4 : GoodIn wsX1_degreeOf (va_wsS RX1 32 yJ6_bitCount_0f7a4 wsJ6_bitCount_0f7a4) := goodIn_app (goodIn_of _ (by decide +kernel)) ggX1_degreeOf_J6_bitCount_0f7a4
theorem dX1_degreeOf_0 : decode cX1_degreeOf 0 = .ok (.aload_n 0, 1) := by decide +kernel
theorem dX1_degreeOf_1 : decode cX1_degreeOf 1 = .ok (.getfield 9, 3) := by decide +kernel
theorem dX1_degreeOf_4 : decode cX1_degreeOf 4 = .ok (.iload_n 1, 1) := by decide +kernel
theorem dX1_degreeOf_5 : decode cX1_degreeOf 5 = .ok (.iaload, 1) := by decide +kernel
theorem dX1_degreeOf_6 : decode cX1_degreeOf 6 = .ok (.invokestatic 32, 3) := by decide +kernel
theorem dX1_degreeOf_9 : decode cX1_degreeOf 9 = .ok (.ireturn, 1) := by decide +kernel
set_option maxRecDepth 20000 in
theorem ggX1_pairCount_X1_degreeOf : GoodIn wsX1_pairCount wsX1_degreeOf := goodIn_r _ [5, 6, 7, 8, 9, 10, 11, 12, 13, 14] (by decide +kernel) (by decide +kernel)
set_option maxRecDepth 20000 in
theorem gX1_pairCount_X1_degreeOf : GoodIn wsX1_pairCount (wsV RX1 38 RX1 yX1_degreeOf wsX1_degreeOf) := goodIn_app (goodIn_of _ (by decide +kernel)) ggX1_pairCount_X1_degreeOf
theorem dX1_pairCount_0 : decode cX1_pairCount 0 = .ok (.iconst 0, 1) := by decide +kernel
theorem dX1_pairCount_1 : decode cX1_pairCount 1 = .ok (.istore_n 1, 1) := by decide +kernel
theorem dX1_pairCount_2 : decode cX1_pairCount 2 = .ok (.iconst 0, 1) := by decide +kernel
theorem dX1_pairCount_3 : decode cX1_pairCount 3 = .ok (.istore_n 2, 1) := by decide +kernel
theorem dX1_pairCount_4 : decode cX1_pairCount 4 = .ok (.iload_n 2, 1) := by decide +kernel
theorem dX1_pairCount_5 : decode cX1_pairCount 5 = .ok (.bipush 8, 2) := by decide +kernel
theorem dX1_pairCount_7 : decode cX1_pairCount 7 = .ok (.if_icmp .ge 17, 3) := by decide +kernel
theorem dX1_pairCount_10 : decode cX1_pairCount 10 = .ok (.iload_n 1, 1) := by decide +kernel
theorem dX1_pairCount_11 : decode cX1_pairCount 11 = .ok (.aload_n 0, 1) := by decide +kernel
theorem dX1_pairCount_12 : decode cX1_pairCount 12 = .ok (.iload_n 2, 1) := by decide +kernel
theorem dX1_pairCount_13 : decode cX1_pairCount 13 = .ok (.invokevirtual 38, 3) := by decide +kernel
theorem dX1_pairCount_16 : decode cX1_pairCount 16 = .ok (.iadd, 1) := by decide +kernel
theorem dX1_pairCount_17 : decode cX1_pairCount 17 = .ok (.istore_n 1, 1) := by decide +kernel
theorem dX1_pairCount_18 : decode cX1_pairCount 18 = .ok (.iinc 2 1, 3) := by decide +kernel
theorem dX1_pairCount_21 : decode cX1_pairCount 21 = .ok (.goto (-17), 3) := by decide +kernel
theorem dX1_pairCount_24 : decode cX1_pairCount 24 = .ok (.iload_n 1, 1) := by decide +kernel
theorem dX1_pairCount_25 : decode cX1_pairCount 25 = .ok (.iconst 2, 1) := by decide +kernel
theorem dX1_pairCount_26 : decode cX1_pairCount 26 = .ok (.idiv, 1) := by decide +kernel
theorem dX1_pairCount_27 : decode cX1_pairCount 27 = .ok (.ireturn, 1) := by decide +kernel
set_option maxRecDepth 20000 in
theorem ggX1_groupOf_X1_with : GoodIn wsX1_groupOf wsX1_with := goodIn_r _ [5] (by decide +kernel) (by decide +kernel)
set_option maxRecDepth 20000 in
theorem gX1_groupOf_X1_with : GoodIn wsX1_groupOf (va_wsS RX1 21 yX1_with wsX1_with) := goodIn_app (goodIn_of _ (by decide +kernel)) ggX1_groupOf_X1_with
set_option maxRecDepth 20000 in
theorem ggX1_groupOf_X1_holds : GoodIn wsX1_groupOf wsX1_holds := goodIn_r _ [8] (by decide +kernel) (by decide +kernel)
set_option maxRecDepth 20000 in
theorem gX1_groupOf_X1_holds : GoodIn wsX1_groupOf (va_wsS RX1 28 yX1_holds wsX1_holds) := goodIn_app (goodIn_of _ (by decide +kernel)) ggX1_groupOf_X1_holds
theorem dX1_groupOf_0 : decode cX1_groupOf 0 = .ok (.iconst 0, 1) := by decide +kernel
theorem dX1_groupOf_1 : decode cX1_groupOf 1 = .ok (.iload_n 1, 1) := by decide +kernel
theorem dX1_groupOf_2 : decode cX1_groupOf 2 = .ok (.invokestatic 21, 3) := by decide +kernel
theorem dX1_groupOf_5 : decode cX1_groupOf 5 = .ok (.istore_n 2, 1) := by decide +kernel
theorem dX1_groupOf_6 : decode cX1_groupOf 6 = .ok (.iconst 1, 1) := by decide +kernel
theorem dX1_groupOf_7 : decode cX1_groupOf 7 = .ok (.istore_n 3, 1) := by decide +kernel
theorem dX1_groupOf_8 : decode cX1_groupOf 8 = .ok (.iload_n 3, 1) := by decide +kernel
theorem dX1_groupOf_9 : decode cX1_groupOf 9 = .ok (.bipush 8, 2) := by decide +kernel
theorem dX1_groupOf_11 : decode cX1_groupOf 11 = .ok (.if_icmp .ge 52, 3) := by decide +kernel
theorem dX1_groupOf_14 : decode cX1_groupOf 14 = .ok (.iload_n 2, 1) := by decide +kernel
theorem dX1_groupOf_15 : decode cX1_groupOf 15 = .ok (.istore 4, 2) := by decide +kernel
theorem dX1_groupOf_17 : decode cX1_groupOf 17 = .ok (.iconst 0, 1) := by decide +kernel
theorem dX1_groupOf_18 : decode cX1_groupOf 18 = .ok (.istore 5, 2) := by decide +kernel
theorem dX1_groupOf_20 : decode cX1_groupOf 20 = .ok (.iload 5, 2) := by decide +kernel
theorem dX1_groupOf_22 : decode cX1_groupOf 22 = .ok (.bipush 8, 2) := by decide +kernel
theorem dX1_groupOf_24 : decode cX1_groupOf 24 = .ok (.if_icmp .ge 30, 3) := by decide +kernel
theorem dX1_groupOf_27 : decode cX1_groupOf 27 = .ok (.iload_n 2, 1) := by decide +kernel
theorem dX1_groupOf_28 : decode cX1_groupOf 28 = .ok (.iload 5, 2) := by decide +kernel
theorem dX1_groupOf_30 : decode cX1_groupOf 30 = .ok (.invokestatic 28, 3) := by decide +kernel
theorem dX1_groupOf_33 : decode cX1_groupOf 33 = .ok (.ifCond .eq 15, 3) := by decide +kernel
theorem dX1_groupOf_36 : decode cX1_groupOf 36 = .ok (.iload 4, 2) := by decide +kernel
theorem dX1_groupOf_38 : decode cX1_groupOf 38 = .ok (.aload_n 0, 1) := by decide +kernel
theorem dX1_groupOf_39 : decode cX1_groupOf 39 = .ok (.getfield 9, 3) := by decide +kernel
theorem dX1_groupOf_42 : decode cX1_groupOf 42 = .ok (.iload 5, 2) := by decide +kernel
theorem dX1_groupOf_44 : decode cX1_groupOf 44 = .ok (.iaload, 1) := by decide +kernel
theorem dX1_groupOf_45 : decode cX1_groupOf 45 = .ok (.ior, 1) := by decide +kernel
theorem dX1_groupOf_46 : decode cX1_groupOf 46 = .ok (.istore 4, 2) := by decide +kernel
theorem dX1_groupOf_48 : decode cX1_groupOf 48 = .ok (.iinc 5 1, 3) := by decide +kernel
theorem dX1_groupOf_51 : decode cX1_groupOf 51 = .ok (.goto (-31), 3) := by decide +kernel
theorem dX1_groupOf_54 : decode cX1_groupOf 54 = .ok (.iload 4, 2) := by decide +kernel
theorem dX1_groupOf_56 : decode cX1_groupOf 56 = .ok (.istore_n 2, 1) := by decide +kernel
theorem dX1_groupOf_57 : decode cX1_groupOf 57 = .ok (.iinc 3 1, 3) := by decide +kernel
theorem dX1_groupOf_60 : decode cX1_groupOf 60 = .ok (.goto (-52), 3) := by decide +kernel
theorem dX1_groupOf_63 : decode cX1_groupOf 63 = .ok (.iload_n 2, 1) := by decide +kernel
theorem dX1_groupOf_64 : decode cX1_groupOf 64 = .ok (.ireturn, 1) := by decide +kernel
theorem dX2_init_0 : decode cX2_init 0 = .ok (.aload_n 0, 1) := by decide +kernel
theorem dX2_init_1 : decode cX2_init 1 = .ok (.invokespecial 3, 3) := by decide +kernel
theorem dX2_init_4 : decode cX2_init 4 = .ok (.aload_n 0, 1) := by decide +kernel
theorem dX2_init_5 : decode cX2_init 5 = .ok (.bipush 8, 2) := by decide +kernel
theorem dX2_init_7 : decode cX2_init 7 = .ok (.newarray .int, 2) := by decide +kernel
theorem dX2_init_9 : decode cX2_init 9 = .ok (.putfield 9, 3) := by decide +kernel
theorem dX2_init_12 : decode cX2_init 12 = .ok (.aload_n 0, 1) := by decide +kernel
theorem dX2_init_13 : decode cX2_init 13 = .ok (.bipush 8, 2) := by decide +kernel
theorem dX2_init_15 : decode cX2_init 15 = .ok (.newarray .int, 2) := by decide +kernel
theorem dX2_init_17 : decode cX2_init 17 = .ok (.putfield 15, 3) := by decide +kernel
theorem dX2_init_20 : decode cX2_init 20 = .ok (.aload_n 0, 1) := by decide +kernel
theorem dX2_init_21 : decode cX2_init 21 = .ok (.bipush 8, 2) := by decide +kernel
theorem dX2_init_23 : decode cX2_init 23 = .ok (.newarray .int, 2) := by decide +kernel
theorem dX2_init_25 : decode cX2_init 25 = .ok (.putfield 18, 3) := by decide +kernel
theorem dX2_init_28 : decode cX2_init 28 = .ok (.return_, 1) := by decide +kernel
set_option maxRecDepth 20000 in
theorem ggX2_rankOf_J7_fill_53178 : GoodIn wsX2_rankOf wsJ7_fill_53178 := goodIn_r _ [6] (by decide +kernel) (by decide +kernel)
set_option maxRecDepth 20000 in
theorem gX2_rankOf_J7_fill_53178 : GoodIn wsX2_rankOf (va_wsS RX2 21 yJ7_fill_53178 wsJ7_fill_53178) := goodIn_app (goodIn_of _ (by decide +kernel)) ggX2_rankOf_J7_fill_53178
set_option maxRecDepth 20000 in
theorem ggX2_rankOf_X1_joins : GoodIn wsX2_rankOf wsX1_joins := goodIn_r _ [10, 11, 12, 13, 8, 14, 48] (by decide +kernel) (by decide +kernel)
set_option maxRecDepth 20000 in
theorem gX2_rankOf_X1_joins_n27 : GoodIn wsX2_rankOf (wsX1_joins) := ggX2_rankOf_X1_joins
set_option maxRecDepth 20000 in
theorem ggX2_rankOf_X2_gatherPebbles : GoodIn wsX2_rankOf wsX2_gatherPebbles := goodIn_r _ [19, 1, 20, 21, 22, 18, 23, 24, 25, 26, 27, 28, 2, 3, 4, 5, 6, 29, 8, 30, 13, 14, 31, 32, 33, 34, 35, 36, 37, 38, 39, 40, 41, 42, 43, 44, 45, 46, 47] (by decide +kernel) (by decide +kernel)
set_option maxRecDepth 20000 in
theorem gX2_rankOf_X2_gatherPebbles : GoodIn wsX2_rankOf (wsV RX2 33 RX2 yX2_gatherPebbles wsX2_gatherPebbles) := goodIn_app (goodIn_of _ (by decide +kernel)) ggX2_rankOf_X2_gatherPebbles
set_option maxRecDepth 20000 in
theorem ggX2_rankOf_X1_with : GoodIn wsX2_rankOf wsX1_with := goodIn_r _ [30] (by decide +kernel) (by decide +kernel)
set_option maxRecDepth 20000 in
theorem gX2_rankOf_X1_with_n36 : GoodIn wsX2_rankOf (wsX1_with) := ggX2_rankOf_X1_with
theorem dX2_rankOf_0 : decode cX2_rankOf 0 = .ok (.aload_n 0, 1) := by decide +kernel
theorem dX2_rankOf_1 : decode cX2_rankOf 1 = .ok (.getfield 9, 3) := by decide +kernel
theorem dX2_rankOf_4 : decode cX2_rankOf 4 = .ok (.iconst 2, 1) := by decide +kernel
theorem dX2_rankOf_5 : decode cX2_rankOf 5 = .ok (.invokestatic 21, 3) := by decide +kernel
theorem dX2_rankOf_8 : decode cX2_rankOf 8 = .ok (.aload_n 0, 1) := by decide +kernel
theorem dX2_rankOf_9 : decode cX2_rankOf 9 = .ok (.getfield 15, 3) := by decide +kernel
theorem dX2_rankOf_12 : decode cX2_rankOf 12 = .ok (.iconst 0, 1) := by decide +kernel
theorem dX2_rankOf_13 : decode cX2_rankOf 13 = .ok (.invokestatic 21, 3) := by decide +kernel
theorem dX2_rankOf_16 : decode cX2_rankOf 16 = .ok (.iconst 0, 1) := by decide +kernel
theorem dX2_rankOf_17 : decode cX2_rankOf 17 = .ok (.istore_n 2, 1) := by decide +kernel
theorem dX2_rankOf_18 : decode cX2_rankOf 18 = .ok (.iconst 0, 1) := by decide +kernel
theorem dX2_rankOf_19 : decode cX2_rankOf 19 = .ok (.istore_n 3, 1) := by decide +kernel
theorem dX2_rankOf_20 : decode cX2_rankOf 20 = .ok (.iload_n 3, 1) := by decide +kernel
theorem dX2_rankOf_21 : decode cX2_rankOf 21 = .ok (.bipush 8, 2) := by decide +kernel
theorem dX2_rankOf_23 : decode cX2_rankOf 23 = .ok (.if_icmp .ge 74, 3) := by decide +kernel
theorem dX2_rankOf_26 : decode cX2_rankOf 26 = .ok (.iconst 0, 1) := by decide +kernel
theorem dX2_rankOf_27 : decode cX2_rankOf 27 = .ok (.istore 4, 2) := by decide +kernel
theorem dX2_rankOf_29 : decode cX2_rankOf 29 = .ok (.iload 4, 2) := by decide +kernel
theorem dX2_rankOf_31 : decode cX2_rankOf 31 = .ok (.iload_n 3, 1) := by decide +kernel
theorem dX2_rankOf_32 : decode cX2_rankOf 32 = .ok (.if_icmp .ge 59, 3) := by decide +kernel
theorem dX2_rankOf_35 : decode cX2_rankOf 35 = .ok (.aload_n 1, 1) := by decide +kernel
theorem dX2_rankOf_36 : decode cX2_rankOf 36 = .ok (.iload_n 3, 1) := by decide +kernel
theorem dX2_rankOf_37 : decode cX2_rankOf 37 = .ok (.iload 4, 2) := by decide +kernel
theorem dX2_rankOf_39 : decode cX2_rankOf 39 = .ok (.invokevirtual 27, 3) := by decide +kernel
theorem dX2_rankOf_42 : decode cX2_rankOf 42 = .ok (.ifCond .eq 43, 3) := by decide +kernel
theorem dX2_rankOf_45 : decode cX2_rankOf 45 = .ok (.aload_n 0, 1) := by decide +kernel
theorem dX2_rankOf_46 : decode cX2_rankOf 46 = .ok (.iload_n 3, 1) := by decide +kernel
theorem dX2_rankOf_47 : decode cX2_rankOf 47 = .ok (.iload 4, 2) := by decide +kernel
theorem dX2_rankOf_49 : decode cX2_rankOf 49 = .ok (.invokevirtual 33, 3) := by decide +kernel
theorem dX2_rankOf_52 : decode cX2_rankOf 52 = .ok (.ifCond .eq 33, 3) := by decide +kernel
theorem dX2_rankOf_55 : decode cX2_rankOf 55 = .ok (.aload_n 0, 1) := by decide +kernel
theorem dX2_rankOf_56 : decode cX2_rankOf 56 = .ok (.getfield 9, 3) := by decide +kernel
theorem dX2_rankOf_59 : decode cX2_rankOf 59 = .ok (.iload_n 3, 1) := by decide +kernel
theorem dX2_rankOf_60 : decode cX2_rankOf 60 = .ok (.dup2, 1) := by decide +kernel
theorem dX2_rankOf_61 : decode cX2_rankOf 61 = .ok (.iaload, 1) := by decide +kernel
theorem dX2_rankOf_62 : decode cX2_rankOf 62 = .ok (.iconst 1, 1) := by decide +kernel
theorem dX2_rankOf_63 : decode cX2_rankOf 63 = .ok (.isub, 1) := by decide +kernel
theorem dX2_rankOf_64 : decode cX2_rankOf 64 = .ok (.iastore, 1) := by decide +kernel
theorem dX2_rankOf_65 : decode cX2_rankOf 65 = .ok (.aload_n 0, 1) := by decide +kernel
theorem dX2_rankOf_66 : decode cX2_rankOf 66 = .ok (.getfield 15, 3) := by decide +kernel
theorem dX2_rankOf_69 : decode cX2_rankOf 69 = .ok (.iload_n 3, 1) := by decide +kernel
theorem dX2_rankOf_70 : decode cX2_rankOf 70 = .ok (.aload_n 0, 1) := by decide +kernel
theorem dX2_rankOf_71 : decode cX2_rankOf 71 = .ok (.getfield 15, 3) := by decide +kernel
theorem dX2_rankOf_74 : decode cX2_rankOf 74 = .ok (.iload_n 3, 1) := by decide +kernel
theorem dX2_rankOf_75 : decode cX2_rankOf 75 = .ok (.iaload, 1) := by decide +kernel
theorem dX2_rankOf_76 : decode cX2_rankOf 76 = .ok (.iload 4, 2) := by decide +kernel
theorem dX2_rankOf_78 : decode cX2_rankOf 78 = .ok (.invokestatic 36, 3) := by decide +kernel
theorem dX2_rankOf_81 : decode cX2_rankOf 81 = .ok (.iastore, 1) := by decide +kernel
theorem dX2_rankOf_82 : decode cX2_rankOf 82 = .ok (.iinc 2 1, 3) := by decide +kernel
theorem dX2_rankOf_85 : decode cX2_rankOf 85 = .ok (.iinc 4 1, 3) := by decide +kernel
theorem dX2_rankOf_88 : decode cX2_rankOf 88 = .ok (.goto (-59), 3) := by decide +kernel
theorem dX2_rankOf_91 : decode cX2_rankOf 91 = .ok (.iinc 3 1, 3) := by decide +kernel
theorem dX2_rankOf_94 : decode cX2_rankOf 94 = .ok (.goto (-74), 3) := by decide +kernel
theorem dX2_rankOf_97 : decode cX2_rankOf 97 = .ok (.iload_n 2, 1) := by decide +kernel
theorem dX2_rankOf_98 : decode cX2_rankOf 98 = .ok (.ireturn, 1) := by decide +kernel
set_option maxRecDepth 20000 in
theorem ggX2_gatherPebbles_X2_fetchPebble : GoodIn wsX2_gatherPebbles wsX2_fetchPebble := goodIn_r _ [6, 1, 7, 8, 9, 5, 10, 11, 12, 13, 14, 15, 16, 17, 18, 19, 20, 21, 22, 23, 24, 25, 26, 27, 28, 29, 30, 31, 32, 33, 34, 35, 36, 37, 38] (by decide +kernel) (by decide +kernel)
set_option maxRecDepth 20000 in
theorem gX2_gatherPebbles_X2_fetchPebble : GoodIn wsX2_gatherPebbles (wsV RX2 40 RX2 yX2_fetchPebble wsX2_fetchPebble) := goodIn_app (goodIn_of _ (by decide +kernel)) ggX2_gatherPebbles_X2_fetchPebble
theorem dX2_gatherPebbles_0 : decode cX2_gatherPebbles 0 = .ok (.iconst 0, 1) := by decide +kernel
theorem dX2_gatherPebbles_1 : decode cX2_gatherPebbles 1 = .ok (.istore_n 3, 1) := by decide +kernel
theorem dX2_gatherPebbles_2 : decode cX2_gatherPebbles 2 = .ok (.iload_n 3, 1) := by decide +kernel
theorem dX2_gatherPebbles_3 : decode cX2_gatherPebbles 3 = .ok (.iconst 4, 1) := by decide +kernel
theorem dX2_gatherPebbles_4 : decode cX2_gatherPebbles 4 = .ok (.if_icmp .ge 48, 3) := by decide +kernel
theorem dX2_gatherPebbles_7 : decode cX2_gatherPebbles 7 = .ok (.aload_n 0, 1) := by decide +kernel
theorem dX2_gatherPebbles_8 : decode cX2_gatherPebbles 8 = .ok (.getfield 9, 3) := by decide +kernel
theorem dX2_gatherPebbles_11 : decode cX2_gatherPebbles 11 = .ok (.iload_n 1, 1) := by decide +kernel
theorem dX2_gatherPebbles_12 : decode cX2_gatherPebbles 12 = .ok (.iaload, 1) := by decide +kernel
theorem dX2_gatherPebbles_13 : decode cX2_gatherPebbles 13 = .ok (.aload_n 0, 1) := by decide +kernel
theorem dX2_gatherPebbles_14 : decode cX2_gatherPebbles 14 = .ok (.getfield 9, 3) := by decide +kernel
theorem dX2_gatherPebbles_17 : decode cX2_gatherPebbles 17 = .ok (.iload_n 2, 1) := by decide +kernel
theorem dX2_gatherPebbles_18 : decode cX2_gatherPebbles 18 = .ok (.iaload, 1) := by decide +kernel
theorem dX2_gatherPebbles_19 : decode cX2_gatherPebbles 19 = .ok (.iadd, 1) := by decide +kernel
theorem dX2_gatherPebbles_20 : decode cX2_gatherPebbles 20 = .ok (.iconst 4, 1) := by decide +kernel
theorem dX2_gatherPebbles_21 : decode cX2_gatherPebbles 21 = .ok (.if_icmp .lt 5, 3) := by decide +kernel
theorem dX2_gatherPebbles_24 : decode cX2_gatherPebbles 24 = .ok (.iconst 1, 1) := by decide +kernel
theorem dX2_gatherPebbles_25 : decode cX2_gatherPebbles 25 = .ok (.ireturn, 1) := by decide +kernel
theorem dX2_gatherPebbles_26 : decode cX2_gatherPebbles 26 = .ok (.aload_n 0, 1) := by decide +kernel
theorem dX2_gatherPebbles_27 : decode cX2_gatherPebbles 27 = .ok (.iload_n 1, 1) := by decide +kernel
theorem dX2_gatherPebbles_28 : decode cX2_gatherPebbles 28 = .ok (.iload_n 2, 1) := by decide +kernel
theorem dX2_gatherPebbles_29 : decode cX2_gatherPebbles 29 = .ok (.invokevirtual 40, 3) := by decide +kernel
theorem dX2_gatherPebbles_32 : decode cX2_gatherPebbles 32 = .ok (.ifCond .ne 14, 3) := by decide +kernel
theorem dX2_gatherPebbles_35 : decode cX2_gatherPebbles 35 = .ok (.aload_n 0, 1) := by decide +kernel
theorem dX2_gatherPebbles_36 : decode cX2_gatherPebbles 36 = .ok (.iload_n 2, 1) := by decide +kernel
theorem dX2_gatherPebbles_37 : decode cX2_gatherPebbles 37 = .ok (.iload_n 1, 1) := by decide +kernel
theorem dX2_gatherPebbles_38 : decode cX2_gatherPebbles 38 = .ok (.invokevirtual 40, 3) := by decide +kernel
theorem dX2_gatherPebbles_41 : decode cX2_gatherPebbles 41 = .ok (.ifCond .ne 5, 3) := by decide +kernel
theorem dX2_gatherPebbles_44 : decode cX2_gatherPebbles 44 = .ok (.iconst 0, 1) := by decide +kernel
theorem dX2_gatherPebbles_45 : decode cX2_gatherPebbles 45 = .ok (.ireturn, 1) := by decide +kernel
theorem dX2_gatherPebbles_46 : decode cX2_gatherPebbles 46 = .ok (.iinc 3 1, 3) := by decide +kernel
theorem dX2_gatherPebbles_49 : decode cX2_gatherPebbles 49 = .ok (.goto (-47), 3) := by decide +kernel
theorem dX2_gatherPebbles_52 : decode cX2_gatherPebbles 52 = .ok (.aload_n 0, 1) := by decide +kernel
theorem dX2_gatherPebbles_53 : decode cX2_gatherPebbles 53 = .ok (.getfield 9, 3) := by decide +kernel
theorem dX2_gatherPebbles_56 : decode cX2_gatherPebbles 56 = .ok (.iload_n 1, 1) := by decide +kernel
theorem dX2_gatherPebbles_57 : decode cX2_gatherPebbles 57 = .ok (.iaload, 1) := by decide +kernel
theorem dX2_gatherPebbles_58 : decode cX2_gatherPebbles 58 = .ok (.aload_n 0, 1) := by decide +kernel
theorem dX2_gatherPebbles_59 : decode cX2_gatherPebbles 59 = .ok (.getfield 9, 3) := by decide +kernel
theorem dX2_gatherPebbles_62 : decode cX2_gatherPebbles 62 = .ok (.iload_n 2, 1) := by decide +kernel
theorem dX2_gatherPebbles_63 : decode cX2_gatherPebbles 63 = .ok (.iaload, 1) := by decide +kernel
theorem dX2_gatherPebbles_64 : decode cX2_gatherPebbles 64 = .ok (.iadd, 1) := by decide +kernel
theorem dX2_gatherPebbles_65 : decode cX2_gatherPebbles 65 = .ok (.iconst 4, 1) := by decide +kernel
theorem dX2_gatherPebbles_66 : decode cX2_gatherPebbles 66 = .ok (.if_icmp .lt 7, 3) := by decide +kernel
theorem dX2_gatherPebbles_69 : decode cX2_gatherPebbles 69 = .ok (.iconst 1, 1) := by decide +kernel
theorem dX2_gatherPebbles_70 : decode cX2_gatherPebbles 70 = .ok (.goto 4, 3) := by decide +kernel
theorem dX2_gatherPebbles_73 : decode cX2_gatherPebbles 73 = .ok (.iconst 0, 1) := by decide +kernel
theorem dX2_gatherPebbles_74 : decode cX2_gatherPebbles 74 = .ok (.ireturn, 1) := by decide +kernel
set_option maxRecDepth 20000 in
theorem ggX2_fetchPebble_X2_findPebble : GoodIn wsX2_fetchPebble wsX2_findPebble := goodIn_r _ [6, 7, 8, 9, 10, 11, 12, 13, 14, 15, 16, 17, 18, 19, 20, 5, 21, 22, 23, 24, 25, 1, 32, 33, 34] (by decide +kernel) (by decide +kernel)
set_option maxRecDepth 20000 in
theorem gX2_fetchPebble_X2_findPebble : GoodIn wsX2_fetchPebble (wsV RX2 43 RX2 yX2_findPebble wsX2_findPebble) := goodIn_app (goodIn_of _ (by decide +kernel)) ggX2_fetchPebble_X2_findPebble
set_option maxRecDepth 20000 in
theorem ggX2_fetchPebble_X2_turnArcs : GoodIn wsX2_fetchPebble wsX2_turnArcs := goodIn_r _ [29, 7, 8, 30, 14, 31, 13, 15, 32, 33, 34] (by decide +kernel) (by decide +kernel)
set_option maxRecDepth 20000 in
theorem gX2_fetchPebble_X2_turnArcs : GoodIn wsX2_fetchPebble (wsV RX2 46 RX2 yX2_turnArcs wsX2_turnArcs) := goodIn_app (goodIn_of _ (by decide +kernel)) ggX2_fetchPebble_X2_turnArcs
theorem dX2_fetchPebble_0 : decode cX2_fetchPebble 0 = .ok (.aload_n 0, 1) := by decide +kernel
theorem dX2_fetchPebble_1 : decode cX2_fetchPebble 1 = .ok (.iload_n 1, 1) := by decide +kernel
theorem dX2_fetchPebble_2 : decode cX2_fetchPebble 2 = .ok (.iload_n 2, 1) := by decide +kernel
theorem dX2_fetchPebble_3 : decode cX2_fetchPebble 3 = .ok (.invokevirtual 43, 3) := by decide +kernel
theorem dX2_fetchPebble_6 : decode cX2_fetchPebble 6 = .ok (.istore_n 3, 1) := by decide +kernel
theorem dX2_fetchPebble_7 : decode cX2_fetchPebble 7 = .ok (.iload_n 3, 1) := by decide +kernel
theorem dX2_fetchPebble_8 : decode cX2_fetchPebble 8 = .ok (.ifCond .ge 5, 3) := by decide +kernel
theorem dX2_fetchPebble_11 : decode cX2_fetchPebble 11 = .ok (.iconst 0, 1) := by decide +kernel
theorem dX2_fetchPebble_12 : decode cX2_fetchPebble 12 = .ok (.ireturn, 1) := by decide +kernel
theorem dX2_fetchPebble_13 : decode cX2_fetchPebble 13 = .ok (.aload_n 0, 1) := by decide +kernel
theorem dX2_fetchPebble_14 : decode cX2_fetchPebble 14 = .ok (.getfield 9, 3) := by decide +kernel
theorem dX2_fetchPebble_17 : decode cX2_fetchPebble 17 = .ok (.iload_n 3, 1) := by decide +kernel
theorem dX2_fetchPebble_18 : decode cX2_fetchPebble 18 = .ok (.dup2, 1) := by decide +kernel
theorem dX2_fetchPebble_19 : decode cX2_fetchPebble 19 = .ok (.iaload, 1) := by decide +kernel
theorem dX2_fetchPebble_20 : decode cX2_fetchPebble 20 = .ok (.iconst 1, 1) := by decide +kernel
theorem dX2_fetchPebble_21 : decode cX2_fetchPebble 21 = .ok (.isub, 1) := by decide +kernel
theorem dX2_fetchPebble_22 : decode cX2_fetchPebble 22 = .ok (.iastore, 1) := by decide +kernel
theorem dX2_fetchPebble_23 : decode cX2_fetchPebble 23 = .ok (.aload_n 0, 1) := by decide +kernel
theorem dX2_fetchPebble_24 : decode cX2_fetchPebble 24 = .ok (.getfield 9, 3) := by decide +kernel
theorem dX2_fetchPebble_27 : decode cX2_fetchPebble 27 = .ok (.iload_n 1, 1) := by decide +kernel
theorem dX2_fetchPebble_28 : decode cX2_fetchPebble 28 = .ok (.dup2, 1) := by decide +kernel
theorem dX2_fetchPebble_29 : decode cX2_fetchPebble 29 = .ok (.iaload, 1) := by decide +kernel
theorem dX2_fetchPebble_30 : decode cX2_fetchPebble 30 = .ok (.iconst 1, 1) := by decide +kernel
theorem dX2_fetchPebble_31 : decode cX2_fetchPebble 31 = .ok (.iadd, 1) := by decide +kernel
theorem dX2_fetchPebble_32 : decode cX2_fetchPebble 32 = .ok (.iastore, 1) := by decide +kernel
theorem dX2_fetchPebble_33 : decode cX2_fetchPebble 33 = .ok (.aload_n 0, 1) := by decide +kernel
theorem dX2_fetchPebble_34 : decode cX2_fetchPebble 34 = .ok (.iload_n 3, 1) := by decide +kernel
theorem dX2_fetchPebble_35 : decode cX2_fetchPebble 35 = .ok (.invokevirtual 46, 3) := by decide +kernel
theorem dX2_fetchPebble_38 : decode cX2_fetchPebble 38 = .ok (.iconst 1, 1) := by decide +kernel
theorem dX2_fetchPebble_39 : decode cX2_fetchPebble 39 = .ok (.ireturn, 1) := by decide +kernel
set_option maxRecDepth 20000 in
theorem ggX2_findPebble_J7_fill_53178 : GoodIn wsX2_findPebble wsJ7_fill_53178 := goodIn_r _ [6] (by decide +kernel) (by decide +kernel)
set_option maxRecDepth 20000 in
theorem gX2_findPebble_J7_fill_53178 : GoodIn wsX2_findPebble (va_wsS RX2 21 yJ7_fill_53178 wsJ7_fill_53178) := goodIn_app (goodIn_of _ (by decide +kernel)) ggX2_findPebble_J7_fill_53178
set_option maxRecDepth 20000 in
theorem ggX2_findPebble_X1_with : GoodIn wsX2_findPebble wsX1_with := goodIn_r _ [9] (by decide +kernel) (by decide +kernel)
set_option maxRecDepth 20000 in
theorem gX2_findPebble_X1_with_n36 : GoodIn wsX2_findPebble (wsX1_with) := ggX2_findPebble_X1_with
set_option maxRecDepth 20000 in
theorem ggX2_findPebble_X1_holds : GoodIn wsX2_findPebble wsX1_holds := goodIn_r _ [11] (by decide +kernel) (by decide +kernel)
set_option maxRecDepth 20000 in
theorem gX2_findPebble_X1_holds_n50 : GoodIn wsX2_findPebble (wsX1_holds) := ggX2_findPebble_X1_holds
set_option maxRecDepth 20000 in
theorem ggX2_findPebble_X2_noteWay : GoodIn wsX2_findPebble wsX2_noteWay := goodIn_r _ [16, 1, 10, 8, 11, 22, 23, 24] (by decide +kernel) (by decide +kernel)
set_option maxRecDepth 20000 in
theorem gX2_findPebble_X2_noteWay : GoodIn wsX2_findPebble (wsV RX2 53 RX2 yX2_noteWay wsX2_noteWay) := goodIn_app (goodIn_of _ (by decide +kernel)) ggX2_findPebble_X2_noteWay
set_option maxRecDepth 20000 in
theorem ggX2_findPebble_X2_holderAmong : GoodIn wsX2_findPebble wsX2_holderAmong := goodIn_r _ [20, 21, 10, 8, 11, 22, 23, 24] (by decide +kernel) (by decide +kernel)
set_option maxRecDepth 20000 in
theorem gX2_findPebble_X2_holderAmong : GoodIn wsX2_findPebble (wsV RX2 57 RX2 yX2_holderAmong wsX2_holderAmong) := goodIn_app (goodIn_of _ (by decide +kernel)) ggX2_findPebble_X2_holderAmong
theorem dX2_findPebble_0 : decode cX2_findPebble 0 = .ok (.aload_n 0, 1) := by decide +kernel
theorem dX2_findPebble_1 : decode cX2_findPebble 1 = .ok (.getfield 18, 3) := by decide +kernel
theorem dX2_findPebble_4 : decode cX2_findPebble 4 = .ok (.iconst (-1), 1) := by decide +kernel
theorem dX2_findPebble_5 : decode cX2_findPebble 5 = .ok (.invokestatic 21, 3) := by decide +kernel
theorem dX2_findPebble_8 : decode cX2_findPebble 8 = .ok (.iconst 0, 1) := by decide +kernel
theorem dX2_findPebble_9 : decode cX2_findPebble 9 = .ok (.iload_n 1, 1) := by decide +kernel
theorem dX2_findPebble_10 : decode cX2_findPebble 10 = .ok (.invokestatic 36, 3) := by decide +kernel
theorem dX2_findPebble_13 : decode cX2_findPebble 13 = .ok (.iload_n 2, 1) := by decide +kernel
theorem dX2_findPebble_14 : decode cX2_findPebble 14 = .ok (.invokestatic 36, 3) := by decide +kernel
theorem dX2_findPebble_17 : decode cX2_findPebble 17 = .ok (.istore_n 3, 1) := by decide +kernel
theorem dX2_findPebble_18 : decode cX2_findPebble 18 = .ok (.iconst 0, 1) := by decide +kernel
theorem dX2_findPebble_19 : decode cX2_findPebble 19 = .ok (.iload_n 1, 1) := by decide +kernel
theorem dX2_findPebble_20 : decode cX2_findPebble 20 = .ok (.invokestatic 36, 3) := by decide +kernel
theorem dX2_findPebble_23 : decode cX2_findPebble 23 = .ok (.istore 4, 2) := by decide +kernel
theorem dX2_findPebble_25 : decode cX2_findPebble 25 = .ok (.iconst 1, 1) := by decide +kernel
theorem dX2_findPebble_26 : decode cX2_findPebble 26 = .ok (.istore 5, 2) := by decide +kernel
theorem dX2_findPebble_28 : decode cX2_findPebble 28 = .ok (.iload 5, 2) := by decide +kernel
theorem dX2_findPebble_30 : decode cX2_findPebble 30 = .ok (.bipush 8, 2) := by decide +kernel
theorem dX2_findPebble_32 : decode cX2_findPebble 32 = .ok (.if_icmp .ge 96, 3) := by decide +kernel
theorem dX2_findPebble_35 : decode cX2_findPebble 35 = .ok (.iconst 0, 1) := by decide +kernel
theorem dX2_findPebble_36 : decode cX2_findPebble 36 = .ok (.istore 6, 2) := by decide +kernel
theorem dX2_findPebble_38 : decode cX2_findPebble 38 = .ok (.iconst 0, 1) := by decide +kernel
theorem dX2_findPebble_39 : decode cX2_findPebble 39 = .ok (.istore 7, 2) := by decide +kernel
theorem dX2_findPebble_41 : decode cX2_findPebble 41 = .ok (.iload 7, 2) := by decide +kernel
theorem dX2_findPebble_43 : decode cX2_findPebble 43 = .ok (.bipush 8, 2) := by decide +kernel
theorem dX2_findPebble_45 : decode cX2_findPebble 45 = .ok (.if_icmp .ge 52, 3) := by decide +kernel
theorem dX2_findPebble_48 : decode cX2_findPebble 48 = .ok (.iload 4, 2) := by decide +kernel
theorem dX2_findPebble_50 : decode cX2_findPebble 50 = .ok (.iload 7, 2) := by decide +kernel
theorem dX2_findPebble_52 : decode cX2_findPebble 52 = .ok (.invokestatic 50, 3) := by decide +kernel
theorem dX2_findPebble_55 : decode cX2_findPebble 55 = .ok (.ifCond .eq 36, 3) := by decide +kernel
theorem dX2_findPebble_58 : decode cX2_findPebble 58 = .ok (.aload_n 0, 1) := by decide +kernel
theorem dX2_findPebble_59 : decode cX2_findPebble 59 = .ok (.getfield 15, 3) := by decide +kernel
theorem dX2_findPebble_62 : decode cX2_findPebble 62 = .ok (.iload 7, 2) := by decide +kernel
theorem dX2_findPebble_64 : decode cX2_findPebble 64 = .ok (.iaload, 1) := by decide +kernel
theorem dX2_findPebble_65 : decode cX2_findPebble 65 = .ok (.iload_n 3, 1) := by decide +kernel
theorem dX2_findPebble_66 : decode cX2_findPebble 66 = .ok (.iconst (-1), 1) := by decide +kernel
theorem dX2_findPebble_67 : decode cX2_findPebble 67 = .ok (.ixor, 1) := by decide +kernel
theorem dX2_findPebble_68 : decode cX2_findPebble 68 = .ok (.iand, 1) := by decide +kernel
theorem dX2_findPebble_69 : decode cX2_findPebble 69 = .ok (.iload 6, 2) := by decide +kernel
theorem dX2_findPebble_71 : decode cX2_findPebble 71 = .ok (.iconst (-1), 1) := by decide +kernel
theorem dX2_findPebble_72 : decode cX2_findPebble 72 = .ok (.ixor, 1) := by decide +kernel
theorem dX2_findPebble_73 : decode cX2_findPebble 73 = .ok (.iand, 1) := by decide +kernel
theorem dX2_findPebble_74 : decode cX2_findPebble 74 = .ok (.istore 8, 2) := by decide +kernel
theorem dX2_findPebble_76 : decode cX2_findPebble 76 = .ok (.aload_n 0, 1) := by decide +kernel
theorem dX2_findPebble_77 : decode cX2_findPebble 77 = .ok (.iload 7, 2) := by decide +kernel
theorem dX2_findPebble_79 : decode cX2_findPebble 79 = .ok (.iload 8, 2) := by decide +kernel
theorem dX2_findPebble_81 : decode cX2_findPebble 81 = .ok (.invokevirtual 53, 3) := by decide +kernel
theorem dX2_findPebble_84 : decode cX2_findPebble 84 = .ok (.iload 6, 2) := by decide +kernel
theorem dX2_findPebble_86 : decode cX2_findPebble 86 = .ok (.iload 8, 2) := by decide +kernel
theorem dX2_findPebble_88 : decode cX2_findPebble 88 = .ok (.ior, 1) := by decide +kernel
theorem dX2_findPebble_89 : decode cX2_findPebble 89 = .ok (.istore 6, 2) := by decide +kernel
theorem dX2_findPebble_91 : decode cX2_findPebble 91 = .ok (.iinc 7 1, 3) := by decide +kernel
theorem dX2_findPebble_94 : decode cX2_findPebble 94 = .ok (.goto (-53), 3) := by decide +kernel
theorem dX2_findPebble_97 : decode cX2_findPebble 97 = .ok (.aload_n 0, 1) := by decide +kernel
theorem dX2_findPebble_98 : decode cX2_findPebble 98 = .ok (.iload 6, 2) := by decide +kernel
theorem dX2_findPebble_100 : decode cX2_findPebble 100 = .ok (.invokevirtual 57, 3) := by decide +kernel
theorem dX2_findPebble_103 : decode cX2_findPebble 103 = .ok (.istore 7, 2) := by decide +kernel
theorem dX2_findPebble_105 : decode cX2_findPebble 105 = .ok (.iload 7, 2) := by decide +kernel
theorem dX2_findPebble_107 : decode cX2_findPebble 107 = .ok (.ifCond .lt 6, 3) := by decide +kernel
theorem dX2_findPebble_110 : decode cX2_findPebble 110 = .ok (.iload 7, 2) := by decide +kernel
theorem dX2_findPebble_112 : decode cX2_findPebble 112 = .ok (.ireturn, 1) := by decide +kernel
theorem dX2_findPebble_113 : decode cX2_findPebble 113 = .ok (.iload_n 3, 1) := by decide +kernel
theorem dX2_findPebble_114 : decode cX2_findPebble 114 = .ok (.iload 6, 2) := by decide +kernel
theorem dX2_findPebble_116 : decode cX2_findPebble 116 = .ok (.ior, 1) := by decide +kernel
theorem dX2_findPebble_117 : decode cX2_findPebble 117 = .ok (.istore_n 3, 1) := by decide +kernel
theorem dX2_findPebble_118 : decode cX2_findPebble 118 = .ok (.iload 6, 2) := by decide +kernel
theorem dX2_findPebble_120 : decode cX2_findPebble 120 = .ok (.istore 4, 2) := by decide +kernel
theorem dX2_findPebble_122 : decode cX2_findPebble 122 = .ok (.iinc 5 1, 3) := by decide +kernel
theorem dX2_findPebble_125 : decode cX2_findPebble 125 = .ok (.goto (-97), 3) := by decide +kernel
theorem dX2_findPebble_128 : decode cX2_findPebble 128 = .ok (.iconst (-1), 1) := by decide +kernel
theorem dX2_findPebble_129 : decode cX2_findPebble 129 = .ok (.ireturn, 1) := by decide +kernel
set_option maxRecDepth 20000 in
theorem ggX2_noteWay_X1_holds : GoodIn wsX2_noteWay wsX1_holds := goodIn_r _ [4] (by decide +kernel) (by decide +kernel)
set_option maxRecDepth 20000 in
theorem gX2_noteWay_X1_holds_n50 : GoodIn wsX2_noteWay (wsX1_holds) := ggX2_noteWay_X1_holds
theorem dX2_noteWay_0 : decode cX2_noteWay 0 = .ok (.iconst 0, 1) := by decide +kernel
theorem dX2_noteWay_1 : decode cX2_noteWay 1 = .ok (.istore_n 3, 1) := by decide +kernel
theorem dX2_noteWay_2 : decode cX2_noteWay 2 = .ok (.iload_n 3, 1) := by decide +kernel
theorem dX2_noteWay_3 : decode cX2_noteWay 3 = .ok (.bipush 8, 2) := by decide +kernel
theorem dX2_noteWay_5 : decode cX2_noteWay 5 = .ok (.if_icmp .ge 24, 3) := by decide +kernel
theorem dX2_noteWay_8 : decode cX2_noteWay 8 = .ok (.iload_n 2, 1) := by decide +kernel
theorem dX2_noteWay_9 : decode cX2_noteWay 9 = .ok (.iload_n 3, 1) := by decide +kernel
theorem dX2_noteWay_10 : decode cX2_noteWay 10 = .ok (.invokestatic 50, 3) := by decide +kernel
theorem dX2_noteWay_13 : decode cX2_noteWay 13 = .ok (.ifCond .eq 10, 3) := by decide +kernel
theorem dX2_noteWay_16 : decode cX2_noteWay 16 = .ok (.aload_n 0, 1) := by decide +kernel
theorem dX2_noteWay_17 : decode cX2_noteWay 17 = .ok (.getfield 18, 3) := by decide +kernel
theorem dX2_noteWay_20 : decode cX2_noteWay 20 = .ok (.iload_n 3, 1) := by decide +kernel
theorem dX2_noteWay_21 : decode cX2_noteWay 21 = .ok (.iload_n 1, 1) := by decide +kernel
theorem dX2_noteWay_22 : decode cX2_noteWay 22 = .ok (.iastore, 1) := by decide +kernel
theorem dX2_noteWay_23 : decode cX2_noteWay 23 = .ok (.iinc 3 1, 3) := by decide +kernel
theorem dX2_noteWay_26 : decode cX2_noteWay 26 = .ok (.goto (-24), 3) := by decide +kernel
theorem dX2_noteWay_29 : decode cX2_noteWay 29 = .ok (.return_, 1) := by decide +kernel
set_option maxRecDepth 20000 in
theorem ggX2_holderAmong_X1_holds : GoodIn wsX2_holderAmong wsX1_holds := goodIn_r _ [4] (by decide +kernel) (by decide +kernel)
set_option maxRecDepth 20000 in
theorem gX2_holderAmong_X1_holds_n50 : GoodIn wsX2_holderAmong (wsX1_holds) := ggX2_holderAmong_X1_holds
theorem dX2_holderAmong_0 : decode cX2_holderAmong 0 = .ok (.iconst 0, 1) := by decide +kernel
theorem dX2_holderAmong_1 : decode cX2_holderAmong 1 = .ok (.istore_n 2, 1) := by decide +kernel
theorem dX2_holderAmong_2 : decode cX2_holderAmong 2 = .ok (.iload_n 2, 1) := by decide +kernel
theorem dX2_holderAmong_3 : decode cX2_holderAmong 3 = .ok (.bipush 8, 2) := by decide +kernel
theorem dX2_holderAmong_5 : decode cX2_holderAmong 5 = .ok (.if_icmp .ge 28, 3) := by decide +kernel
theorem dX2_holderAmong_8 : decode cX2_holderAmong 8 = .ok (.iload_n 1, 1) := by decide +kernel
theorem dX2_holderAmong_9 : decode cX2_holderAmong 9 = .ok (.iload_n 2, 1) := by decide +kernel
theorem dX2_holderAmong_10 : decode cX2_holderAmong 10 = .ok (.invokestatic 50, 3) := by decide +kernel
theorem dX2_holderAmong_13 : decode cX2_holderAmong 13 = .ok (.ifCond .eq 14, 3) := by decide +kernel
theorem dX2_holderAmong_16 : decode cX2_holderAmong 16 = .ok (.aload_n 0, 1) := by decide +kernel
theorem dX2_holderAmong_17 : decode cX2_holderAmong 17 = .ok (.getfield 9, 3) := by decide +kernel
theorem dX2_holderAmong_20 : decode cX2_holderAmong 20 = .ok (.iload_n 2, 1) := by decide +kernel
theorem dX2_holderAmong_21 : decode cX2_holderAmong 21 = .ok (.iaload, 1) := by decide +kernel
theorem dX2_holderAmong_22 : decode cX2_holderAmong 22 = .ok (.ifCond .le 5, 3) := by decide +kernel
theorem dX2_holderAmong_25 : decode cX2_holderAmong 25 = .ok (.iload_n 2, 1) := by decide +kernel
theorem dX2_holderAmong_26 : decode cX2_holderAmong 26 = .ok (.ireturn, 1) := by decide +kernel
theorem dX2_holderAmong_27 : decode cX2_holderAmong 27 = .ok (.iinc 2 1, 3) := by decide +kernel
theorem dX2_holderAmong_30 : decode cX2_holderAmong 30 = .ok (.goto (-28), 3) := by decide +kernel
theorem dX2_holderAmong_33 : decode cX2_holderAmong 33 = .ok (.iconst (-1), 1) := by decide +kernel
theorem dX2_holderAmong_34 : decode cX2_holderAmong 34 = .ok (.ireturn, 1) := by decide +kernel
set_option maxRecDepth 20000 in
theorem ggX2_turnArcs_X1_without : GoodIn wsX2_turnArcs wsX1_without := goodIn_r _ [5] (by decide +kernel) (by decide +kernel)
set_option maxRecDepth 20000 in
theorem gX2_turnArcs_X1_without_n61 : GoodIn wsX2_turnArcs (wsX1_without) := ggX2_turnArcs_X1_without
set_option maxRecDepth 20000 in
theorem ggX2_turnArcs_X1_with : GoodIn wsX2_turnArcs wsX1_with := goodIn_r _ [7] (by decide +kernel) (by decide +kernel)
set_option maxRecDepth 20000 in
theorem gX2_turnArcs_X1_with_n36 : GoodIn wsX2_turnArcs (wsX1_with) := ggX2_turnArcs_X1_with
theorem dX2_turnArcs_0 : decode cX2_turnArcs 0 = .ok (.iload_n 1, 1) := by decide +kernel
theorem dX2_turnArcs_1 : decode cX2_turnArcs 1 = .ok (.istore_n 2, 1) := by decide +kernel
theorem dX2_turnArcs_2 : decode cX2_turnArcs 2 = .ok (.iconst 1, 1) := by decide +kernel
theorem dX2_turnArcs_3 : decode cX2_turnArcs 3 = .ok (.istore_n 3, 1) := by decide +kernel
theorem dX2_turnArcs_4 : decode cX2_turnArcs 4 = .ok (.iload_n 3, 1) := by decide +kernel
theorem dX2_turnArcs_5 : decode cX2_turnArcs 5 = .ok (.bipush 8, 2) := by decide +kernel
theorem dX2_turnArcs_7 : decode cX2_turnArcs 7 = .ok (.if_icmp .ge 61, 3) := by decide +kernel
theorem dX2_turnArcs_10 : decode cX2_turnArcs 10 = .ok (.aload_n 0, 1) := by decide +kernel
theorem dX2_turnArcs_11 : decode cX2_turnArcs 11 = .ok (.getfield 18, 3) := by decide +kernel
theorem dX2_turnArcs_14 : decode cX2_turnArcs 14 = .ok (.iload_n 2, 1) := by decide +kernel
theorem dX2_turnArcs_15 : decode cX2_turnArcs 15 = .ok (.iaload, 1) := by decide +kernel
theorem dX2_turnArcs_16 : decode cX2_turnArcs 16 = .ok (.istore 4, 2) := by decide +kernel
theorem dX2_turnArcs_18 : decode cX2_turnArcs 18 = .ok (.iload 4, 2) := by decide +kernel
theorem dX2_turnArcs_20 : decode cX2_turnArcs 20 = .ok (.ifCond .ge 4, 3) := by decide +kernel
theorem dX2_turnArcs_23 : decode cX2_turnArcs 23 = .ok (.return_, 1) := by decide +kernel
theorem dX2_turnArcs_24 : decode cX2_turnArcs 24 = .ok (.aload_n 0, 1) := by decide +kernel
theorem dX2_turnArcs_25 : decode cX2_turnArcs 25 = .ok (.getfield 15, 3) := by decide +kernel
theorem dX2_turnArcs_28 : decode cX2_turnArcs 28 = .ok (.iload 4, 2) := by decide +kernel
theorem dX2_turnArcs_30 : decode cX2_turnArcs 30 = .ok (.aload_n 0, 1) := by decide +kernel
theorem dX2_turnArcs_31 : decode cX2_turnArcs 31 = .ok (.getfield 15, 3) := by decide +kernel
theorem dX2_turnArcs_34 : decode cX2_turnArcs 34 = .ok (.iload 4, 2) := by decide +kernel
theorem dX2_turnArcs_36 : decode cX2_turnArcs 36 = .ok (.iaload, 1) := by decide +kernel
theorem dX2_turnArcs_37 : decode cX2_turnArcs 37 = .ok (.iload_n 2, 1) := by decide +kernel
theorem dX2_turnArcs_38 : decode cX2_turnArcs 38 = .ok (.invokestatic 61, 3) := by decide +kernel
theorem dX2_turnArcs_41 : decode cX2_turnArcs 41 = .ok (.iastore, 1) := by decide +kernel
theorem dX2_turnArcs_42 : decode cX2_turnArcs 42 = .ok (.aload_n 0, 1) := by decide +kernel
theorem dX2_turnArcs_43 : decode cX2_turnArcs 43 = .ok (.getfield 15, 3) := by decide +kernel
theorem dX2_turnArcs_46 : decode cX2_turnArcs 46 = .ok (.iload_n 2, 1) := by decide +kernel
theorem dX2_turnArcs_47 : decode cX2_turnArcs 47 = .ok (.aload_n 0, 1) := by decide +kernel
theorem dX2_turnArcs_48 : decode cX2_turnArcs 48 = .ok (.getfield 15, 3) := by decide +kernel
theorem dX2_turnArcs_51 : decode cX2_turnArcs 51 = .ok (.iload_n 2, 1) := by decide +kernel
theorem dX2_turnArcs_52 : decode cX2_turnArcs 52 = .ok (.iaload, 1) := by decide +kernel
theorem dX2_turnArcs_53 : decode cX2_turnArcs 53 = .ok (.iload 4, 2) := by decide +kernel
theorem dX2_turnArcs_55 : decode cX2_turnArcs 55 = .ok (.invokestatic 36, 3) := by decide +kernel
theorem dX2_turnArcs_58 : decode cX2_turnArcs 58 = .ok (.iastore, 1) := by decide +kernel
theorem dX2_turnArcs_59 : decode cX2_turnArcs 59 = .ok (.iload 4, 2) := by decide +kernel
theorem dX2_turnArcs_61 : decode cX2_turnArcs 61 = .ok (.istore_n 2, 1) := by decide +kernel
theorem dX2_turnArcs_62 : decode cX2_turnArcs 62 = .ok (.iinc 3 1, 3) := by decide +kernel
theorem dX2_turnArcs_65 : decode cX2_turnArcs 65 = .ok (.goto (-61), 3) := by decide +kernel
theorem dX2_turnArcs_68 : decode cX2_turnArcs 68 = .ok (.return_, 1) := by decide +kernel
theorem dX3_init_0 : decode cX3_init 0 = .ok (.aload_n 0, 1) := by decide +kernel
theorem dX3_init_1 : decode cX3_init 1 = .ok (.invokespecial 3, 3) := by decide +kernel
theorem dX3_init_4 : decode cX3_init 4 = .ok (.aload_n 0, 1) := by decide +kernel
theorem dX3_init_5 : decode cX3_init 5 = .ok (.bipush 8, 2) := by decide +kernel
theorem dX3_init_7 : decode cX3_init 7 = .ok (.bipush 8, 2) := by decide +kernel
theorem dX3_init_9 : decode cX3_init 9 = .ok (.multianewarray 9 2, 4) := by decide +kernel
theorem dX3_init_13 : decode cX3_init 13 = .ok (.putfield 11, 3) := by decide +kernel
theorem dX3_init_16 : decode cX3_init 16 = .ok (.return_, 1) := by decide +kernel
set_option maxRecDepth 20000 in
theorem ggX3_treesOf_J6_numberOfTrailingZeros_0f7a4 : GoodIn wsX3_treesOf wsJ6_numberOfTrailingZeros_0f7a4 := goodIn_r _ [4, 5] (by decide +kernel) (by decide +kernel)
set_option maxRecDepth 20000 in
theorem gX3_treesOf_J6_numberOfTrailingZeros_0f7a4 : GoodIn wsX3_treesOf (va_wsS RX3 16 yJ6_numberOfTrailingZeros_0f7a4 wsJ6_numberOfTrailingZeros_0f7a4) := goodIn_app (goodIn_of _ (by decide +kernel)) ggX3_treesOf_J6_numberOfTrailingZeros_0f7a4
set_option maxRecDepth 20000 in
theorem ggX3_treesOf_X1_without : GoodIn wsX3_treesOf wsX1_without := goodIn_r _ [8] (by decide +kernel) (by decide +kernel)
set_option maxRecDepth 20000 in
theorem gX3_treesOf_X1_without_n22 : GoodIn wsX3_treesOf (wsX1_without) := ggX3_treesOf_X1_without
set_option maxRecDepth 20000 in
theorem ggX3_treesOf_X3_fill : GoodIn wsX3_treesOf wsX3_fill := goodIn_r _ [13, 14, 15, 7, 16, 17, 18, 12, 19, 20, 21, 22, 23, 24, 25, 26, 27, 28, 29, 30, 3, 31, 32, 33, 34, 39, 40] (by decide +kernel) (by decide +kernel)
set_option maxRecDepth 20000 in
theorem gX3_treesOf_X3_fill : GoodIn wsX3_treesOf (wsV RX3 28 RX3 yX3_fill wsX3_fill) := goodIn_app (goodIn_of _ (by decide +kernel)) ggX3_treesOf_X3_fill
set_option maxRecDepth 20000 in
theorem ggX3_treesOf_X3_determinant : GoodIn wsX3_treesOf wsX3_determinant := goodIn_r _ [38, 14, 39] (by decide +kernel) (by decide +kernel)
set_option maxRecDepth 20000 in
theorem gX3_treesOf_X3_determinant : GoodIn wsX3_treesOf (wsV RX3 32 RX3 yX3_determinant wsX3_determinant) := goodIn_app (goodIn_of _ (by decide +kernel)) ggX3_treesOf_X3_determinant
theorem dX3_treesOf_0 : decode cX3_treesOf 0 = .ok (.iload_n 2, 1) := by decide +kernel
theorem dX3_treesOf_1 : decode cX3_treesOf 1 = .ok (.ifCond .ne 5, 3) := by decide +kernel
theorem dX3_treesOf_4 : decode cX3_treesOf 4 = .ok (.lconst 0, 1) := by decide +kernel
theorem dX3_treesOf_5 : decode cX3_treesOf 5 = .ok (.lreturn, 1) := by decide +kernel
theorem dX3_treesOf_6 : decode cX3_treesOf 6 = .ok (.iload_n 2, 1) := by decide +kernel
theorem dX3_treesOf_7 : decode cX3_treesOf 7 = .ok (.invokestatic 16, 3) := by decide +kernel
theorem dX3_treesOf_10 : decode cX3_treesOf 10 = .ok (.istore_n 3, 1) := by decide +kernel
theorem dX3_treesOf_11 : decode cX3_treesOf 11 = .ok (.aload_n 0, 1) := by decide +kernel
theorem dX3_treesOf_12 : decode cX3_treesOf 12 = .ok (.aload_n 0, 1) := by decide +kernel
theorem dX3_treesOf_13 : decode cX3_treesOf 13 = .ok (.aload_n 1, 1) := by decide +kernel
theorem dX3_treesOf_14 : decode cX3_treesOf 14 = .ok (.iload_n 2, 1) := by decide +kernel
theorem dX3_treesOf_15 : decode cX3_treesOf 15 = .ok (.iload_n 3, 1) := by decide +kernel
theorem dX3_treesOf_16 : decode cX3_treesOf 16 = .ok (.invokestatic 22, 3) := by decide +kernel
theorem dX3_treesOf_19 : decode cX3_treesOf 19 = .ok (.invokevirtual 28, 3) := by decide +kernel
theorem dX3_treesOf_22 : decode cX3_treesOf 22 = .ok (.invokevirtual 32, 3) := by decide +kernel
theorem dX3_treesOf_25 : decode cX3_treesOf 25 = .ok (.lreturn, 1) := by decide +kernel
set_option maxRecDepth 20000 in
theorem ggX3_fill_X1_holds : GoodIn wsX3_fill wsX1_holds := goodIn_r _ [4] (by decide +kernel) (by decide +kernel)
set_option maxRecDepth 20000 in
theorem gX3_fill_X1_holds_n36 : GoodIn wsX3_fill (wsX1_holds) := ggX3_fill_X1_holds
set_option maxRecDepth 20000 in
theorem ggX3_fill_X3_fillRow : GoodIn wsX3_fill wsX3_fillRow := goodIn_r _ [8, 9, 2, 3, 4, 10, 11, 12, 13, 14, 15, 16, 17, 18, 19, 20, 21, 22, 23, 24, 26] (by decide +kernel) (by decide +kernel)
set_option maxRecDepth 20000 in
theorem gX3_fill_X3_fillRow : GoodIn wsX3_fill (va_wsS RX3 40 yX3_fillRow wsX3_fillRow) := goodIn_app (goodIn_of _ (by decide +kernel)) ggX3_fill_X3_fillRow
theorem dX3_fill_0 : decode cX3_fill 0 = .ok (.iconst 0, 1) := by decide +kernel
theorem dX3_fill_1 : decode cX3_fill 1 = .ok (.istore_n 3, 1) := by decide +kernel
theorem dX3_fill_2 : decode cX3_fill 2 = .ok (.iconst 0, 1) := by decide +kernel
theorem dX3_fill_3 : decode cX3_fill 3 = .ok (.istore 4, 2) := by decide +kernel
theorem dX3_fill_5 : decode cX3_fill 5 = .ok (.iload 4, 2) := by decide +kernel
theorem dX3_fill_7 : decode cX3_fill 7 = .ok (.bipush 8, 2) := by decide +kernel
theorem dX3_fill_9 : decode cX3_fill 9 = .ok (.if_icmp .ge 34, 3) := by decide +kernel
theorem dX3_fill_12 : decode cX3_fill 12 = .ok (.iload_n 2, 1) := by decide +kernel
theorem dX3_fill_13 : decode cX3_fill 13 = .ok (.iload 4, 2) := by decide +kernel
theorem dX3_fill_15 : decode cX3_fill 15 = .ok (.invokestatic 36, 3) := by decide +kernel
theorem dX3_fill_18 : decode cX3_fill 18 = .ok (.ifCond .eq 19, 3) := by decide +kernel
theorem dX3_fill_21 : decode cX3_fill 21 = .ok (.aload_n 1, 1) := by decide +kernel
theorem dX3_fill_22 : decode cX3_fill 22 = .ok (.iload_n 2, 1) := by decide +kernel
theorem dX3_fill_23 : decode cX3_fill 23 = .ok (.iload 4, 2) := by decide +kernel
theorem dX3_fill_25 : decode cX3_fill 25 = .ok (.aload_n 0, 1) := by decide +kernel
theorem dX3_fill_26 : decode cX3_fill 26 = .ok (.getfield 11, 3) := by decide +kernel
theorem dX3_fill_29 : decode cX3_fill 29 = .ok (.iload_n 3, 1) := by decide +kernel
theorem dX3_fill_30 : decode cX3_fill 30 = .ok (.aaload, 1) := by decide +kernel
theorem dX3_fill_31 : decode cX3_fill 31 = .ok (.invokestatic 40, 3) := by decide +kernel
theorem dX3_fill_34 : decode cX3_fill 34 = .ok (.iinc 3 1, 3) := by decide +kernel
theorem dX3_fill_37 : decode cX3_fill 37 = .ok (.iinc 4 1, 3) := by decide +kernel
theorem dX3_fill_40 : decode cX3_fill 40 = .ok (.goto (-35), 3) := by decide +kernel
theorem dX3_fill_43 : decode cX3_fill 43 = .ok (.iload_n 3, 1) := by decide +kernel
theorem dX3_fill_44 : decode cX3_fill 44 = .ok (.ireturn, 1) := by decide +kernel
set_option maxRecDepth 20000 in
theorem ggX3_fillRow_X1_holds : GoodIn wsX3_fillRow wsX1_holds := goodIn_r _ [4] (by decide +kernel) (by decide +kernel)
set_option maxRecDepth 20000 in
theorem gX3_fillRow_X1_holds_n36 : GoodIn wsX3_fillRow (wsX1_holds) := ggX3_fillRow_X1_holds
set_option maxRecDepth 20000 in
theorem ggX3_fillRow_X1_joins : GoodIn wsX3_fillRow wsX1_joins := goodIn_r _ [7, 8, 9, 2, 3, 4, 20] (by decide +kernel) (by decide +kernel)
set_option maxRecDepth 20000 in
theorem gX3_fillRow_X1_joins_n44 : GoodIn wsX3_fillRow (wsX1_joins) := ggX3_fillRow_X1_joins
set_option maxRecDepth 20000 in
theorem ggX3_fillRow_X1_degreeOf : GoodIn wsX3_fillRow wsX1_degreeOf := goodIn_r _ [12, 8, 13, 14, 15, 16, 17, 18, 19, 20] (by decide +kernel) (by decide +kernel)
set_option maxRecDepth 20000 in
theorem gX3_fillRow_X1_degreeOf_n49 : GoodIn wsX3_fillRow (wsX1_degreeOf) := ggX3_fillRow_X1_degreeOf
theorem dX3_fillRow_0 : decode cX3_fillRow 0 = .ok (.iconst 0, 1) := by decide +kernel
theorem dX3_fillRow_1 : decode cX3_fillRow 1 = .ok (.istore 4, 2) := by decide +kernel
theorem dX3_fillRow_3 : decode cX3_fillRow 3 = .ok (.iconst 0, 1) := by decide +kernel
theorem dX3_fillRow_4 : decode cX3_fillRow 4 = .ok (.istore 5, 2) := by decide +kernel
theorem dX3_fillRow_6 : decode cX3_fillRow 6 = .ok (.iload 5, 2) := by decide +kernel
theorem dX3_fillRow_8 : decode cX3_fillRow 8 = .ok (.bipush 8, 2) := by decide +kernel
theorem dX3_fillRow_10 : decode cX3_fillRow 10 = .ok (.if_icmp .ge 58, 3) := by decide +kernel
theorem dX3_fillRow_13 : decode cX3_fillRow 13 = .ok (.iload_n 1, 1) := by decide +kernel
theorem dX3_fillRow_14 : decode cX3_fillRow 14 = .ok (.iload 5, 2) := by decide +kernel
theorem dX3_fillRow_16 : decode cX3_fillRow 16 = .ok (.invokestatic 36, 3) := by decide +kernel
theorem dX3_fillRow_19 : decode cX3_fillRow 19 = .ok (.ifCond .eq 43, 3) := by decide +kernel
theorem dX3_fillRow_22 : decode cX3_fillRow 22 = .ok (.aload_n 3, 1) := by decide +kernel
theorem dX3_fillRow_23 : decode cX3_fillRow 23 = .ok (.iload 4, 2) := by decide +kernel
theorem dX3_fillRow_25 : decode cX3_fillRow 25 = .ok (.aload_n 0, 1) := by decide +kernel
theorem dX3_fillRow_26 : decode cX3_fillRow 26 = .ok (.iload_n 2, 1) := by decide +kernel
theorem dX3_fillRow_27 : decode cX3_fillRow 27 = .ok (.iload 5, 2) := by decide +kernel
theorem dX3_fillRow_29 : decode cX3_fillRow 29 = .ok (.invokevirtual 44, 3) := by decide +kernel
theorem dX3_fillRow_32 : decode cX3_fillRow 32 = .ok (.ifCond .eq 9, 3) := by decide +kernel
theorem dX3_fillRow_35 : decode cX3_fillRow 35 = .ok (.ldc2_w 47, 3) := by decide +kernel
theorem dX3_fillRow_38 : decode cX3_fillRow 38 = .ok (.goto 4, 3) := by decide +kernel
theorem dX3_fillRow_41 : decode cX3_fillRow 41 = .ok (.lconst 0, 1) := by decide +kernel
theorem dX3_fillRow_42 : decode cX3_fillRow 42 = .ok (.lastore, 1) := by decide +kernel
theorem dX3_fillRow_43 : decode cX3_fillRow 43 = .ok (.iload 5, 2) := by decide +kernel
theorem dX3_fillRow_45 : decode cX3_fillRow 45 = .ok (.iload_n 2, 1) := by decide +kernel
theorem dX3_fillRow_46 : decode cX3_fillRow 46 = .ok (.if_icmp .ne 13, 3) := by decide +kernel
theorem dX3_fillRow_49 : decode cX3_fillRow 49 = .ok (.aload_n 3, 1) := by decide +kernel
theorem dX3_fillRow_50 : decode cX3_fillRow 50 = .ok (.iload 4, 2) := by decide +kernel
theorem dX3_fillRow_52 : decode cX3_fillRow 52 = .ok (.aload_n 0, 1) := by decide +kernel
theorem dX3_fillRow_53 : decode cX3_fillRow 53 = .ok (.iload_n 2, 1) := by decide +kernel
theorem dX3_fillRow_54 : decode cX3_fillRow 54 = .ok (.invokevirtual 49, 3) := by decide +kernel
theorem dX3_fillRow_57 : decode cX3_fillRow 57 = .ok (.i2l, 1) := by decide +kernel
theorem dX3_fillRow_58 : decode cX3_fillRow 58 = .ok (.lastore, 1) := by decide +kernel
theorem dX3_fillRow_59 : decode cX3_fillRow 59 = .ok (.iinc 4 1, 3) := by decide +kernel
theorem dX3_fillRow_62 : decode cX3_fillRow 62 = .ok (.iinc 5 1, 3) := by decide +kernel
theorem dX3_fillRow_65 : decode cX3_fillRow 65 = .ok (.goto (-59), 3) := by decide +kernel
theorem dX3_fillRow_68 : decode cX3_fillRow 68 = .ok (.return_, 1) := by decide +kernel
theorem dX3_determinant_0 : decode cX3_determinant 0 = .ok (.lconst 1, 1) := by decide +kernel
theorem dX3_determinant_1 : decode cX3_determinant 1 = .ok (.lstore_n 2, 1) := by decide +kernel
theorem dX3_determinant_2 : decode cX3_determinant 2 = .ok (.iconst 0, 1) := by decide +kernel
theorem dX3_determinant_3 : decode cX3_determinant 3 = .ok (.istore 4, 2) := by decide +kernel
theorem dX3_determinant_5 : decode cX3_determinant 5 = .ok (.iload 4, 2) := by decide +kernel
theorem dX3_determinant_7 : decode cX3_determinant 7 = .ok (.iload_n 1, 1) := by decide +kernel
theorem dX3_determinant_8 : decode cX3_determinant 8 = .ok (.if_icmp .ge 120, 3) := by decide +kernel
theorem dX3_determinant_11 : decode cX3_determinant 11 = .ok (.aload_n 0, 1) := by decide +kernel
theorem dX3_determinant_12 : decode cX3_determinant 12 = .ok (.getfield 11, 3) := by decide +kernel
theorem dX3_determinant_15 : decode cX3_determinant 15 = .ok (.iload 4, 2) := by decide +kernel
theorem dX3_determinant_17 : decode cX3_determinant 17 = .ok (.aaload, 1) := by decide +kernel
theorem dX3_determinant_18 : decode cX3_determinant 18 = .ok (.iload 4, 2) := by decide +kernel
theorem dX3_determinant_20 : decode cX3_determinant 20 = .ok (.laload, 1) := by decide +kernel
theorem dX3_determinant_21 : decode cX3_determinant 21 = .ok (.lstore 5, 2) := by decide +kernel
theorem dX3_determinant_23 : decode cX3_determinant 23 = .ok (.lload 5, 2) := by decide +kernel
theorem dX3_determinant_25 : decode cX3_determinant 25 = .ok (.lconst 0, 1) := by decide +kernel
theorem dX3_determinant_26 : decode cX3_determinant 26 = .ok (.lcmp, 1) := by decide +kernel
theorem dX3_determinant_27 : decode cX3_determinant 27 = .ok (.ifCond .ne 5, 3) := by decide +kernel
theorem dX3_determinant_30 : decode cX3_determinant 30 = .ok (.lconst 0, 1) := by decide +kernel
theorem dX3_determinant_31 : decode cX3_determinant 31 = .ok (.lreturn, 1) := by decide +kernel
theorem dX3_determinant_32 : decode cX3_determinant 32 = .ok (.iload 4, 2) := by decide +kernel
theorem dX3_determinant_34 : decode cX3_determinant 34 = .ok (.iconst 1, 1) := by decide +kernel
theorem dX3_determinant_35 : decode cX3_determinant 35 = .ok (.iadd, 1) := by decide +kernel
theorem dX3_determinant_36 : decode cX3_determinant 36 = .ok (.istore 7, 2) := by decide +kernel
theorem dX3_determinant_38 : decode cX3_determinant 38 = .ok (.iload 7, 2) := by decide +kernel
theorem dX3_determinant_40 : decode cX3_determinant 40 = .ok (.iload_n 1, 1) := by decide +kernel
theorem dX3_determinant_41 : decode cX3_determinant 41 = .ok (.if_icmp .ge 78, 3) := by decide +kernel
theorem dX3_determinant_44 : decode cX3_determinant 44 = .ok (.iload 4, 2) := by decide +kernel
theorem dX3_determinant_46 : decode cX3_determinant 46 = .ok (.iconst 1, 1) := by decide +kernel
theorem dX3_determinant_47 : decode cX3_determinant 47 = .ok (.iadd, 1) := by decide +kernel
theorem dX3_determinant_48 : decode cX3_determinant 48 = .ok (.istore 8, 2) := by decide +kernel
theorem dX3_determinant_50 : decode cX3_determinant 50 = .ok (.iload 8, 2) := by decide +kernel
theorem dX3_determinant_52 : decode cX3_determinant 52 = .ok (.iload_n 1, 1) := by decide +kernel
theorem dX3_determinant_53 : decode cX3_determinant 53 = .ok (.if_icmp .ge 60, 3) := by decide +kernel
theorem dX3_determinant_56 : decode cX3_determinant 56 = .ok (.aload_n 0, 1) := by decide +kernel
theorem dX3_determinant_57 : decode cX3_determinant 57 = .ok (.getfield 11, 3) := by decide +kernel
theorem dX3_determinant_60 : decode cX3_determinant 60 = .ok (.iload 7, 2) := by decide +kernel
theorem dX3_determinant_62 : decode cX3_determinant 62 = .ok (.aaload, 1) := by decide +kernel
theorem dX3_determinant_63 : decode cX3_determinant 63 = .ok (.iload 4, 2) := by decide +kernel
theorem dX3_determinant_65 : decode cX3_determinant 65 = .ok (.laload, 1) := by decide +kernel
theorem dX3_determinant_66 : decode cX3_determinant 66 = .ok (.aload_n 0, 1) := by decide +kernel
theorem dX3_determinant_67 : decode cX3_determinant 67 = .ok (.getfield 11, 3) := by decide +kernel
theorem dX3_determinant_70 : decode cX3_determinant 70 = .ok (.iload 4, 2) := by decide +kernel
theorem dX3_determinant_72 : decode cX3_determinant 72 = .ok (.aaload, 1) := by decide +kernel
theorem dX3_determinant_73 : decode cX3_determinant 73 = .ok (.iload 8, 2) := by decide +kernel
theorem dX3_determinant_75 : decode cX3_determinant 75 = .ok (.laload, 1) := by decide +kernel
theorem dX3_determinant_76 : decode cX3_determinant 76 = .ok (.lmul, 1) := by decide +kernel
theorem dX3_determinant_77 : decode cX3_determinant 77 = .ok (.lstore 9, 2) := by decide +kernel
theorem dX3_determinant_79 : decode cX3_determinant 79 = .ok (.aload_n 0, 1) := by decide +kernel
theorem dX3_determinant_80 : decode cX3_determinant 80 = .ok (.getfield 11, 3) := by decide +kernel
theorem dX3_determinant_83 : decode cX3_determinant 83 = .ok (.iload 7, 2) := by decide +kernel
theorem dX3_determinant_85 : decode cX3_determinant 85 = .ok (.aaload, 1) := by decide +kernel
theorem dX3_determinant_86 : decode cX3_determinant 86 = .ok (.iload 8, 2) := by decide +kernel
theorem dX3_determinant_88 : decode cX3_determinant 88 = .ok (.aload_n 0, 1) := by decide +kernel
theorem dX3_determinant_89 : decode cX3_determinant 89 = .ok (.getfield 11, 3) := by decide +kernel
theorem dX3_determinant_92 : decode cX3_determinant 92 = .ok (.iload 7, 2) := by decide +kernel
theorem dX3_determinant_94 : decode cX3_determinant 94 = .ok (.aaload, 1) := by decide +kernel
theorem dX3_determinant_95 : decode cX3_determinant 95 = .ok (.iload 8, 2) := by decide +kernel
theorem dX3_determinant_97 : decode cX3_determinant 97 = .ok (.laload, 1) := by decide +kernel
theorem dX3_determinant_98 : decode cX3_determinant 98 = .ok (.lload 5, 2) := by decide +kernel
theorem dX3_determinant_100 : decode cX3_determinant 100 = .ok (.lmul, 1) := by decide +kernel
theorem dX3_determinant_101 : decode cX3_determinant 101 = .ok (.lload 9, 2) := by decide +kernel
theorem dX3_determinant_103 : decode cX3_determinant 103 = .ok (.lsub, 1) := by decide +kernel
theorem dX3_determinant_104 : decode cX3_determinant 104 = .ok (.lload_n 2, 1) := by decide +kernel
theorem dX3_determinant_105 : decode cX3_determinant 105 = .ok (.ldiv, 1) := by decide +kernel
theorem dX3_determinant_106 : decode cX3_determinant 106 = .ok (.lastore, 1) := by decide +kernel
theorem dX3_determinant_107 : decode cX3_determinant 107 = .ok (.iinc 8 1, 3) := by decide +kernel
theorem dX3_determinant_110 : decode cX3_determinant 110 = .ok (.goto (-60), 3) := by decide +kernel
theorem dX3_determinant_113 : decode cX3_determinant 113 = .ok (.iinc 7 1, 3) := by decide +kernel
theorem dX3_determinant_116 : decode cX3_determinant 116 = .ok (.goto (-78), 3) := by decide +kernel
theorem dX3_determinant_119 : decode cX3_determinant 119 = .ok (.lload 5, 2) := by decide +kernel
theorem dX3_determinant_121 : decode cX3_determinant 121 = .ok (.lstore_n 2, 1) := by decide +kernel
theorem dX3_determinant_122 : decode cX3_determinant 122 = .ok (.iinc 4 1, 3) := by decide +kernel
theorem dX3_determinant_125 : decode cX3_determinant 125 = .ok (.goto (-120), 3) := by decide +kernel
theorem dX3_determinant_128 : decode cX3_determinant 128 = .ok (.lload_n 2, 1) := by decide +kernel
theorem dX3_determinant_129 : decode cX3_determinant 129 = .ok (.lreturn, 1) := by decide +kernel
set_option maxRecDepth 20000 in
theorem ggX4_init_X1_init : GoodIn wsX4_init wsX1_init := goodIn_r _ [38, 39, 2, 3, 4, 40, 79] (by decide +kernel) (by decide +kernel)
set_option maxRecDepth 20000 in
theorem gX4_init_X1_init_n42 : GoodIn wsX4_init (wsX1_init) := ggX4_init_X1_init
set_option maxRecDepth 20000 in
theorem ggX4_init_X2_init : GoodIn wsX4_init wsX2_init := goodIn_r _ [42, 43, 2, 3, 4, 44, 45, 46, 80, 81, 82] (by decide +kernel) (by decide +kernel)
set_option maxRecDepth 20000 in
theorem gX4_init_X2_init_n65 : GoodIn wsX4_init (wsX2_init) := ggX4_init_X2_init
set_option maxRecDepth 20000 in
theorem ggX4_init_X0_init : GoodIn wsX4_init wsX0_init := goodIn_r _ [48, 49, 2, 3, 4, 50, 83] (by decide +kernel) (by decide +kernel)
set_option maxRecDepth 20000 in
theorem gX4_init_X0_init_n72 : GoodIn wsX4_init (wsX0_init) := ggX4_init_X0_init
set_option maxRecDepth 20000 in
theorem ggX4_init_X3_init : GoodIn wsX4_init wsX3_init := goodIn_r _ [52, 53, 2, 3, 54, 55, 56, 84] (by decide +kernel) (by decide +kernel)
set_option maxRecDepth 20000 in
theorem gX4_init_X3_init_n79 : GoodIn wsX4_init (wsX3_init) := ggX4_init_X3_init
set_option maxRecDepth 20000 in
theorem ggX4_init_J7_fill_53178 : GoodIn wsX4_init wsJ7_fill_53178 := goodIn_r _ [60] (by decide +kernel) (by decide +kernel)
set_option maxRecDepth 20000 in
theorem gX4_init_J7_fill_53178 : GoodIn wsX4_init (va_wsS RX4 84 yJ7_fill_53178 wsJ7_fill_53178) := goodIn_app (goodIn_of _ (by decide +kernel)) ggX4_init_J7_fill_53178
theorem dX4_init_0 : decode cX4_init 0 = .ok (.aload_n 0, 1) := by decide +kernel
theorem dX4_init_1 : decode cX4_init 1 = .ok (.invokespecial 1, 3) := by decide +kernel
theorem dX4_init_4 : decode cX4_init 4 = .ok (.aload_n 0, 1) := by decide +kernel
theorem dX4_init_5 : decode cX4_init 5 = .ok (.bipush 8, 2) := by decide +kernel
theorem dX4_init_7 : decode cX4_init 7 = .ok (.newarray .int, 2) := by decide +kernel
theorem dX4_init_9 : decode cX4_init 9 = .ok (.putfield 9, 3) := by decide +kernel
theorem dX4_init_12 : decode cX4_init 12 = .ok (.aload_n 0, 1) := by decide +kernel
theorem dX4_init_13 : decode cX4_init 13 = .ok (.bipush 8, 2) := by decide +kernel
theorem dX4_init_15 : decode cX4_init 15 = .ok (.newarray .int, 2) := by decide +kernel
theorem dX4_init_17 : decode cX4_init 17 = .ok (.putfield 13, 3) := by decide +kernel
theorem dX4_init_20 : decode cX4_init 20 = .ok (.aload_n 0, 1) := by decide +kernel
theorem dX4_init_21 : decode cX4_init 21 = .ok (.bipush 8, 2) := by decide +kernel
theorem dX4_init_23 : decode cX4_init 23 = .ok (.newarray .boolean, 2) := by decide +kernel
theorem dX4_init_25 : decode cX4_init 25 = .ok (.putfield 16, 3) := by decide +kernel
theorem dX4_init_28 : decode cX4_init 28 = .ok (.aload_n 0, 1) := by decide +kernel
theorem dX4_init_29 : decode cX4_init 29 = .ok (.bipush 8, 2) := by decide +kernel
theorem dX4_init_31 : decode cX4_init 31 = .ok (.newarray .int, 2) := by decide +kernel
theorem dX4_init_33 : decode cX4_init 33 = .ok (.putfield 20, 3) := by decide +kernel
theorem dX4_init_36 : decode cX4_init 36 = .ok (.aload_n 0, 1) := by decide +kernel
theorem dX4_init_37 : decode cX4_init 37 = .ok (.bipush 8, 2) := by decide +kernel
theorem dX4_init_39 : decode cX4_init 39 = .ok (.newarray .int, 2) := by decide +kernel
theorem dX4_init_41 : decode cX4_init 41 = .ok (.putfield 23, 3) := by decide +kernel
theorem dX4_init_44 : decode cX4_init 44 = .ok (.aload_n 0, 1) := by decide +kernel
theorem dX4_init_45 : decode cX4_init 45 = .ok (.bipush 8, 2) := by decide +kernel
theorem dX4_init_47 : decode cX4_init 47 = .ok (.newarray .int, 2) := by decide +kernel
theorem dX4_init_49 : decode cX4_init 49 = .ok (.putfield 26, 3) := by decide +kernel
theorem dX4_init_52 : decode cX4_init 52 = .ok (.aload_n 0, 1) := by decide +kernel
theorem dX4_init_53 : decode cX4_init 53 = .ok (.bipush 8, 2) := by decide +kernel
theorem dX4_init_55 : decode cX4_init 55 = .ok (.newarray .int, 2) := by decide +kernel
theorem dX4_init_57 : decode cX4_init 57 = .ok (.putfield 29, 3) := by decide +kernel
theorem dX4_init_60 : decode cX4_init 60 = .ok (.aload_n 0, 1) := by decide +kernel
theorem dX4_init_61 : decode cX4_init 61 = .ok (.bipush 8, 2) := by decide +kernel
theorem dX4_init_63 : decode cX4_init 63 = .ok (.newarray .int, 2) := by decide +kernel
theorem dX4_init_65 : decode cX4_init 65 = .ok (.putfield 32, 3) := by decide +kernel
theorem dX4_init_68 : decode cX4_init 68 = .ok (.aload_n 0, 1) := by decide +kernel
theorem dX4_init_69 : decode cX4_init 69 = .ok (.bipush 8, 2) := by decide +kernel
theorem dX4_init_71 : decode cX4_init 71 = .ok (.bipush 8, 2) := by decide +kernel
theorem dX4_init_73 : decode cX4_init 73 = .ok (.multianewarray 35 2, 4) := by decide +kernel
theorem dX4_init_77 : decode cX4_init 77 = .ok (.putfield 37, 3) := by decide +kernel
theorem dX4_init_80 : decode cX4_init 80 = .ok (.aload_n 0, 1) := by decide +kernel
theorem dX4_init_81 : decode cX4_init 81 = .ok (.new 40, 3) := by decide +kernel
theorem dX4_init_84 : decode cX4_init 84 = .ok (.dup, 1) := by decide +kernel
theorem dX4_init_85 : decode cX4_init 85 = .ok (.invokespecial 42, 3) := by decide +kernel
theorem dX4_init_88 : decode cX4_init 88 = .ok (.putfield 43, 3) := by decide +kernel
theorem dX4_init_91 : decode cX4_init 91 = .ok (.aload_n 0, 1) := by decide +kernel
theorem dX4_init_92 : decode cX4_init 92 = .ok (.iconst 0, 1) := by decide +kernel
theorem dX4_init_93 : decode cX4_init 93 = .ok (.putfield 47, 3) := by decide +kernel
theorem dX4_init_96 : decode cX4_init 96 = .ok (.aload_n 0, 1) := by decide +kernel
theorem dX4_init_97 : decode cX4_init 97 = .ok (.bipush 100, 2) := by decide +kernel
theorem dX4_init_99 : decode cX4_init 99 = .ok (.putfield 51, 3) := by decide +kernel
theorem dX4_init_102 : decode cX4_init 102 = .ok (.aload_n 0, 1) := by decide +kernel
theorem dX4_init_103 : decode cX4_init 103 = .ok (.new 40, 3) := by decide +kernel
theorem dX4_init_106 : decode cX4_init 106 = .ok (.dup, 1) := by decide +kernel
theorem dX4_init_107 : decode cX4_init 107 = .ok (.invokespecial 42, 3) := by decide +kernel
theorem dX4_init_110 : decode cX4_init 110 = .ok (.putfield 54, 3) := by decide +kernel
theorem dX4_init_113 : decode cX4_init 113 = .ok (.aload_n 0, 1) := by decide +kernel
theorem dX4_init_114 : decode cX4_init 114 = .ok (.bipush 8, 2) := by decide +kernel
theorem dX4_init_116 : decode cX4_init 116 = .ok (.newarray .int, 2) := by decide +kernel
theorem dX4_init_118 : decode cX4_init 118 = .ok (.putfield 57, 3) := by decide +kernel
theorem dX4_init_121 : decode cX4_init 121 = .ok (.aload_n 0, 1) := by decide +kernel
theorem dX4_init_122 : decode cX4_init 122 = .ok (.bipush 8, 2) := by decide +kernel
theorem dX4_init_124 : decode cX4_init 124 = .ok (.newarray .int, 2) := by decide +kernel
theorem dX4_init_126 : decode cX4_init 126 = .ok (.putfield 60, 3) := by decide +kernel
theorem dX4_init_129 : decode cX4_init 129 = .ok (.aload_n 0, 1) := by decide +kernel
theorem dX4_init_130 : decode cX4_init 130 = .ok (.new 63, 3) := by decide +kernel
theorem dX4_init_133 : decode cX4_init 133 = .ok (.dup, 1) := by decide +kernel
theorem dX4_init_134 : decode cX4_init 134 = .ok (.invokespecial 65, 3) := by decide +kernel
theorem dX4_init_137 : decode cX4_init 137 = .ok (.putfield 66, 3) := by decide +kernel
theorem dX4_init_140 : decode cX4_init 140 = .ok (.aload_n 0, 1) := by decide +kernel
theorem dX4_init_141 : decode cX4_init 141 = .ok (.new 70, 3) := by decide +kernel
theorem dX4_init_144 : decode cX4_init 144 = .ok (.dup, 1) := by decide +kernel
theorem dX4_init_145 : decode cX4_init 145 = .ok (.invokespecial 72, 3) := by decide +kernel
theorem dX4_init_148 : decode cX4_init 148 = .ok (.putfield 73, 3) := by decide +kernel
theorem dX4_init_151 : decode cX4_init 151 = .ok (.aload_n 0, 1) := by decide +kernel
theorem dX4_init_152 : decode cX4_init 152 = .ok (.new 77, 3) := by decide +kernel
theorem dX4_init_155 : decode cX4_init 155 = .ok (.dup, 1) := by decide +kernel
theorem dX4_init_156 : decode cX4_init 156 = .ok (.invokespecial 79, 3) := by decide +kernel
theorem dX4_init_159 : decode cX4_init 159 = .ok (.putfield 80, 3) := by decide +kernel
theorem dX4_init_162 : decode cX4_init 162 = .ok (.iconst 0, 1) := by decide +kernel
theorem dX4_init_163 : decode cX4_init 163 = .ok (.istore_n 1, 1) := by decide +kernel
theorem dX4_init_164 : decode cX4_init 164 = .ok (.iload_n 1, 1) := by decide +kernel
theorem dX4_init_165 : decode cX4_init 165 = .ok (.bipush 8, 2) := by decide +kernel
theorem dX4_init_167 : decode cX4_init 167 = .ok (.if_icmp .ge 19, 3) := by decide +kernel
theorem dX4_init_170 : decode cX4_init 170 = .ok (.aload_n 0, 1) := by decide +kernel
theorem dX4_init_171 : decode cX4_init 171 = .ok (.getfield 37, 3) := by decide +kernel
theorem dX4_init_174 : decode cX4_init 174 = .ok (.iload_n 1, 1) := by decide +kernel
theorem dX4_init_175 : decode cX4_init 175 = .ok (.aaload, 1) := by decide +kernel
theorem dX4_init_176 : decode cX4_init 176 = .ok (.iconst (-1), 1) := by decide +kernel
theorem dX4_init_177 : decode cX4_init 177 = .ok (.invokestatic 84, 3) := by decide +kernel
theorem dX4_init_180 : decode cX4_init 180 = .ok (.iinc 1 1, 3) := by decide +kernel
theorem dX4_init_183 : decode cX4_init 183 = .ok (.goto (-19), 3) := by decide +kernel
theorem dX4_init_186 : decode cX4_init 186 = .ok (.return_, 1) := by decide +kernel
set_option maxRecDepth 20000 in
theorem ggX4_addMember_X4_requirePlace : GoodIn wsX4_addMember wsX4_requirePlace := goodIn_ca (goodIn_r _ [12, 13, 14, 11, 15, 16, 17] (by decide +kernel) (by decide +kernel)) (goodIn_sub (fun _ h => List.mem_cons_of_mem _ (List.mem_append_right _ h)) (by decide +kernel))
set_option maxRecDepth 20000 in
theorem gX4_addMember_X4_requirePlace : GoodIn wsX4_addMember (va_wsS RX4 90 yX4_requirePlace wsX4_requirePlace) := goodIn_app (goodIn_of _ (by decide +kernel)) ggX4_addMember_X4_requirePlace
theorem dX4_addMember_0 : decode cX4_addMember 0 = .ok (.iload_n 1, 1) := by decide +kernel
theorem dX4_addMember_1 : decode cX4_addMember 1 = .ok (.iload_n 2, 1) := by decide +kernel
theorem dX4_addMember_2 : decode cX4_addMember 2 = .ok (.invokestatic 90, 3) := by decide +kernel
theorem dX4_addMember_5 : decode cX4_addMember 5 = .ok (.aload_n 0, 1) := by decide +kernel
theorem dX4_addMember_6 : decode cX4_addMember 6 = .ok (.getfield 47, 3) := by decide +kernel
theorem dX4_addMember_9 : decode cX4_addMember 9 = .ok (.bipush 8, 2) := by decide +kernel
theorem dX4_addMember_11 : decode cX4_addMember 11 = .ok (.if_icmp .lt 13, 3) := by decide +kernel
theorem dX4_addMember_14 : decode cX4_addMember 14 = .ok (.new 94, 3) := by decide +kernel
theorem dX4_addMember_17 : decode cX4_addMember 17 = .ok (.dup, 1) := by decide +kernel
theorem dX4_addMember_18 : decode cX4_addMember 18 = .ok (.ldc 96, 2) := by decide +kernel
theorem dX4_addMember_20 : decode cX4_addMember 20 = .ok (.invokespecial 98, 3) := by decide +kernel
theorem dX4_addMember_23 : decode cX4_addMember 23 = .ok (.athrow, 1) := by decide +kernel
theorem dX4_addMember_24 : decode cX4_addMember 24 = .ok (.aload_n 0, 1) := by decide +kernel
theorem dX4_addMember_25 : decode cX4_addMember 25 = .ok (.getfield 47, 3) := by decide +kernel
theorem dX4_addMember_28 : decode cX4_addMember 28 = .ok (.istore_n 3, 1) := by decide +kernel
theorem dX4_addMember_29 : decode cX4_addMember 29 = .ok (.aload_n 0, 1) := by decide +kernel
theorem dX4_addMember_30 : decode cX4_addMember 30 = .ok (.getfield 9, 3) := by decide +kernel
theorem dX4_addMember_33 : decode cX4_addMember 33 = .ok (.iload_n 3, 1) := by decide +kernel
theorem dX4_addMember_34 : decode cX4_addMember 34 = .ok (.iload_n 1, 1) := by decide +kernel
theorem dX4_addMember_35 : decode cX4_addMember 35 = .ok (.iastore, 1) := by decide +kernel
theorem dX4_addMember_36 : decode cX4_addMember 36 = .ok (.aload_n 0, 1) := by decide +kernel
theorem dX4_addMember_37 : decode cX4_addMember 37 = .ok (.getfield 13, 3) := by decide +kernel
theorem dX4_addMember_40 : decode cX4_addMember 40 = .ok (.iload_n 3, 1) := by decide +kernel
theorem dX4_addMember_41 : decode cX4_addMember 41 = .ok (.iload_n 2, 1) := by decide +kernel
theorem dX4_addMember_42 : decode cX4_addMember 42 = .ok (.iastore, 1) := by decide +kernel
theorem dX4_addMember_43 : decode cX4_addMember 43 = .ok (.aload_n 0, 1) := by decide +kernel
theorem dX4_addMember_44 : decode cX4_addMember 44 = .ok (.getfield 16, 3) := by decide +kernel
theorem dX4_addMember_47 : decode cX4_addMember 47 = .ok (.iload_n 3, 1) := by decide +kernel
theorem dX4_addMember_48 : decode cX4_addMember 48 = .ok (.iconst 1, 1) := by decide +kernel
theorem dX4_addMember_49 : decode cX4_addMember 49 = .ok (.bastore, 1) := by decide +kernel
theorem dX4_addMember_50 : decode cX4_addMember 50 = .ok (.aload_n 0, 1) := by decide +kernel
theorem dX4_addMember_51 : decode cX4_addMember 51 = .ok (.getfield 29, 3) := by decide +kernel
theorem dX4_addMember_54 : decode cX4_addMember 54 = .ok (.iload_n 3, 1) := by decide +kernel
theorem dX4_addMember_55 : decode cX4_addMember 55 = .ok (.sipush 1024, 3) := by decide +kernel
theorem dX4_addMember_58 : decode cX4_addMember 58 = .ok (.iastore, 1) := by decide +kernel
theorem dX4_addMember_59 : decode cX4_addMember 59 = .ok (.aload_n 0, 1) := by decide +kernel
theorem dX4_addMember_60 : decode cX4_addMember 60 = .ok (.getfield 32, 3) := by decide +kernel
theorem dX4_addMember_63 : decode cX4_addMember 63 = .ok (.iload_n 3, 1) := by decide +kernel
theorem dX4_addMember_64 : decode cX4_addMember 64 = .ok (.iconst (-1), 1) := by decide +kernel
theorem dX4_addMember_65 : decode cX4_addMember 65 = .ok (.iastore, 1) := by decide +kernel
theorem dX4_addMember_66 : decode cX4_addMember 66 = .ok (.aload_n 0, 1) := by decide +kernel
theorem dX4_addMember_67 : decode cX4_addMember 67 = .ok (.dup, 1) := by decide +kernel
theorem dX4_addMember_68 : decode cX4_addMember 68 = .ok (.getfield 47, 3) := by decide +kernel
theorem dX4_addMember_71 : decode cX4_addMember 71 = .ok (.iconst 1, 1) := by decide +kernel
theorem dX4_addMember_72 : decode cX4_addMember 72 = .ok (.iadd, 1) := by decide +kernel
theorem dX4_addMember_73 : decode cX4_addMember 73 = .ok (.putfield 47, 3) := by decide +kernel
theorem dX4_addMember_76 : decode cX4_addMember 76 = .ok (.iload_n 3, 1) := by decide +kernel
theorem dX4_addMember_77 : decode cX4_addMember 77 = .ok (.ireturn, 1) := by decide +kernel
set_option maxRecDepth 20000 in
theorem ggX4_move_X4_requireMember : GoodIn wsX4_move wsX4_requireMember := goodIn_ca (goodIn_r _ [7, 8, 9, 10, 19, 20, 21, 22, 23, 24, 25, 26, 27, 28, 29, 30, 31, 32, 33, 34, 35, 36] (by decide +kernel) (by decide +kernel)) (goodIn_sub (fun _ h => List.mem_cons_of_mem _ (List.mem_append_left _ (List.mem_append_right _ h))) (by decide +kernel))
set_option maxRecDepth 20000 in
theorem gX4_move_X4_requireMember : GoodIn wsX4_move (wsV RX4 101 RX4 yX4_requireMember wsX4_requireMember) := goodIn_app (goodIn_of _ (by decide +kernel)) ggX4_move_X4_requireMember
set_option maxRecDepth 20000 in
theorem ggX4_move_X4_requirePlace : GoodIn wsX4_move wsX4_requirePlace := goodIn_ca (goodIn_r _ [13, 14, 15, 6, 16, 17, 18] (by decide +kernel) (by decide +kernel)) (goodIn_sub (fun _ h => List.mem_cons_of_mem _ (List.mem_append_right _ h)) (by decide +kernel))
set_option maxRecDepth 20000 in
theorem gX4_move_X4_requirePlace : GoodIn wsX4_move (va_wsS RX4 90 yX4_requirePlace wsX4_requirePlace) := goodIn_app (goodIn_of _ (by decide +kernel)) ggX4_move_X4_requirePlace
theorem dX4_move_0 : decode cX4_move 0 = .ok (.aload_n 0, 1) := by decide +kernel
theorem dX4_move_1 : decode cX4_move 1 = .ok (.iload_n 1, 1) := by decide +kernel
theorem dX4_move_2 : decode cX4_move 2 = .ok (.invokevirtual 101, 3) := by decide +kernel
theorem dX4_move_5 : decode cX4_move 5 = .ok (.iload_n 2, 1) := by decide +kernel
theorem dX4_move_6 : decode cX4_move 6 = .ok (.iload_n 3, 1) := by decide +kernel
theorem dX4_move_7 : decode cX4_move 7 = .ok (.invokestatic 90, 3) := by decide +kernel
theorem dX4_move_10 : decode cX4_move 10 = .ok (.aload_n 0, 1) := by decide +kernel
theorem dX4_move_11 : decode cX4_move 11 = .ok (.getfield 9, 3) := by decide +kernel
theorem dX4_move_14 : decode cX4_move 14 = .ok (.iload_n 1, 1) := by decide +kernel
theorem dX4_move_15 : decode cX4_move 15 = .ok (.iload_n 2, 1) := by decide +kernel
theorem dX4_move_16 : decode cX4_move 16 = .ok (.iastore, 1) := by decide +kernel
theorem dX4_move_17 : decode cX4_move 17 = .ok (.aload_n 0, 1) := by decide +kernel
theorem dX4_move_18 : decode cX4_move 18 = .ok (.getfield 13, 3) := by decide +kernel
theorem dX4_move_21 : decode cX4_move 21 = .ok (.iload_n 1, 1) := by decide +kernel
theorem dX4_move_22 : decode cX4_move 22 = .ok (.iload_n 3, 1) := by decide +kernel
theorem dX4_move_23 : decode cX4_move 23 = .ok (.iastore, 1) := by decide +kernel
theorem dX4_move_24 : decode cX4_move 24 = .ok (.return_, 1) := by decide +kernel
set_option maxRecDepth 20000 in
theorem ggX4_toggle_X4_requireMember : GoodIn wsX4_toggle wsX4_requireMember := goodIn_ca (goodIn_r _ [6, 7, 8, 9, 10, 11, 12, 13, 14, 15, 16, 17, 18, 19, 20, 21, 22, 23, 24, 25, 26, 27] (by decide +kernel) (by decide +kernel)) (goodIn_sub (fun _ h => List.mem_cons_of_mem _ (List.mem_append_right _ h)) (by decide +kernel))
set_option maxRecDepth 20000 in
theorem gX4_toggle_X4_requireMember : GoodIn wsX4_toggle (wsV RX4 101 RX4 yX4_requireMember wsX4_requireMember) := goodIn_app (goodIn_of _ (by decide +kernel)) ggX4_toggle_X4_requireMember
theorem dX4_toggle_0 : decode cX4_toggle 0 = .ok (.aload_n 0, 1) := by decide +kernel
theorem dX4_toggle_1 : decode cX4_toggle 1 = .ok (.iload_n 1, 1) := by decide +kernel
theorem dX4_toggle_2 : decode cX4_toggle 2 = .ok (.invokevirtual 101, 3) := by decide +kernel
theorem dX4_toggle_5 : decode cX4_toggle 5 = .ok (.aload_n 0, 1) := by decide +kernel
theorem dX4_toggle_6 : decode cX4_toggle 6 = .ok (.getfield 16, 3) := by decide +kernel
theorem dX4_toggle_9 : decode cX4_toggle 9 = .ok (.iload_n 1, 1) := by decide +kernel
theorem dX4_toggle_10 : decode cX4_toggle 10 = .ok (.aload_n 0, 1) := by decide +kernel
theorem dX4_toggle_11 : decode cX4_toggle 11 = .ok (.getfield 16, 3) := by decide +kernel
theorem dX4_toggle_14 : decode cX4_toggle 14 = .ok (.iload_n 1, 1) := by decide +kernel
theorem dX4_toggle_15 : decode cX4_toggle 15 = .ok (.baload, 1) := by decide +kernel
theorem dX4_toggle_16 : decode cX4_toggle 16 = .ok (.ifCond .ne 7, 3) := by decide +kernel
theorem dX4_toggle_19 : decode cX4_toggle 19 = .ok (.iconst 1, 1) := by decide +kernel
theorem dX4_toggle_20 : decode cX4_toggle 20 = .ok (.goto 4, 3) := by decide +kernel
theorem dX4_toggle_23 : decode cX4_toggle 23 = .ok (.iconst 0, 1) := by decide +kernel
theorem dX4_toggle_24 : decode cX4_toggle 24 = .ok (.bastore, 1) := by decide +kernel
theorem dX4_toggle_25 : decode cX4_toggle 25 = .ok (.aload_n 0, 1) := by decide +kernel
theorem dX4_toggle_26 : decode cX4_toggle 26 = .ok (.getfield 16, 3) := by decide +kernel
theorem dX4_toggle_29 : decode cX4_toggle 29 = .ok (.iload_n 1, 1) := by decide +kernel
theorem dX4_toggle_30 : decode cX4_toggle 30 = .ok (.baload, 1) := by decide +kernel
theorem dX4_toggle_31 : decode cX4_toggle 31 = .ok (.ireturn, 1) := by decide +kernel
set_option maxRecDepth 20000 in
theorem ggX4_setPriority_X4_requireMember : GoodIn wsX4_setPriority wsX4_requireMember := goodIn_ca (goodIn_r _ [6, 7, 8, 9, 15, 16, 17, 18, 19, 20, 21, 22, 23, 24, 25, 26, 27, 28, 29, 30, 31, 32] (by decide +kernel) (by decide +kernel)) (goodIn_sub (fun _ h => List.mem_cons_of_mem _ (List.mem_append_left _ (List.mem_append_right _ h))) (by decide +kernel))
set_option maxRecDepth 20000 in
theorem gX4_setPriority_X4_requireMember : GoodIn wsX4_setPriority (wsV RX4 101 RX4 yX4_requireMember wsX4_requireMember) := goodIn_app (goodIn_of _ (by decide +kernel)) ggX4_setPriority_X4_requireMember
set_option maxRecDepth 20000 in
theorem ggX4_setPriority_X4_requireWithin : GoodIn wsX4_setPriority wsX4_requireWithin := goodIn_ca (goodIn_r _ [12, 13, 14] (by decide +kernel) (by decide +kernel)) (goodIn_sub (fun _ h => List.mem_cons_of_mem _ (List.mem_append_right _ h)) (by decide +kernel))
set_option maxRecDepth 20000 in
theorem gX4_setPriority_X4_requireWithin : GoodIn wsX4_setPriority (va_wsS RX4 105 yX4_requireWithin wsX4_requireWithin) := goodIn_app (goodIn_of _ (by decide +kernel)) ggX4_setPriority_X4_requireWithin
theorem dX4_setPriority_0 : decode cX4_setPriority 0 = .ok (.aload_n 0, 1) := by decide +kernel
theorem dX4_setPriority_1 : decode cX4_setPriority 1 = .ok (.iload_n 1, 1) := by decide +kernel
theorem dX4_setPriority_2 : decode cX4_setPriority 2 = .ok (.invokevirtual 101, 3) := by decide +kernel
theorem dX4_setPriority_5 : decode cX4_setPriority 5 = .ok (.iload_n 2, 1) := by decide +kernel
theorem dX4_setPriority_6 : decode cX4_setPriority 6 = .ok (.iconst 0, 1) := by decide +kernel
theorem dX4_setPriority_7 : decode cX4_setPriority 7 = .ok (.bipush 99, 2) := by decide +kernel
theorem dX4_setPriority_9 : decode cX4_setPriority 9 = .ok (.invokestatic 105, 3) := by decide +kernel
theorem dX4_setPriority_12 : decode cX4_setPriority 12 = .ok (.aload_n 0, 1) := by decide +kernel
theorem dX4_setPriority_13 : decode cX4_setPriority 13 = .ok (.getfield 20, 3) := by decide +kernel
theorem dX4_setPriority_16 : decode cX4_setPriority 16 = .ok (.iload_n 1, 1) := by decide +kernel
theorem dX4_setPriority_17 : decode cX4_setPriority 17 = .ok (.iaload, 1) := by decide +kernel
theorem dX4_setPriority_18 : decode cX4_setPriority 18 = .ok (.istore_n 3, 1) := by decide +kernel
theorem dX4_setPriority_19 : decode cX4_setPriority 19 = .ok (.aload_n 0, 1) := by decide +kernel
theorem dX4_setPriority_20 : decode cX4_setPriority 20 = .ok (.getfield 20, 3) := by decide +kernel
theorem dX4_setPriority_23 : decode cX4_setPriority 23 = .ok (.iload_n 1, 1) := by decide +kernel
theorem dX4_setPriority_24 : decode cX4_setPriority 24 = .ok (.iload_n 2, 1) := by decide +kernel
theorem dX4_setPriority_25 : decode cX4_setPriority 25 = .ok (.iastore, 1) := by decide +kernel
theorem dX4_setPriority_26 : decode cX4_setPriority 26 = .ok (.iload_n 3, 1) := by decide +kernel
theorem dX4_setPriority_27 : decode cX4_setPriority 27 = .ok (.ireturn, 1) := by decide +kernel
set_option maxRecDepth 20000 in
theorem ggX4_setRange_X4_requireWithin : GoodIn wsX4_setRange wsX4_requireWithin := goodIn_ca (goodIn_r _ [5, 6, 7] (by decide +kernel) (by decide +kernel)) (goodIn_sub (fun _ h => List.mem_cons_of_mem _ (List.mem_append_right _ h)) (by decide +kernel))
set_option maxRecDepth 20000 in
theorem gX4_setRange_X4_requireWithin : GoodIn wsX4_setRange (va_wsS RX4 105 yX4_requireWithin wsX4_requireWithin) := goodIn_app (goodIn_of _ (by decide +kernel)) ggX4_setRange_X4_requireWithin
theorem dX4_setRange_0 : decode cX4_setRange 0 = .ok (.iload_n 1, 1) := by decide +kernel
theorem dX4_setRange_1 : decode cX4_setRange 1 = .ok (.iconst 0, 1) := by decide +kernel
theorem dX4_setRange_2 : decode cX4_setRange 2 = .ok (.sipush 3000, 3) := by decide +kernel
theorem dX4_setRange_5 : decode cX4_setRange 5 = .ok (.invokestatic 105, 3) := by decide +kernel
theorem dX4_setRange_8 : decode cX4_setRange 8 = .ok (.aload_n 0, 1) := by decide +kernel
theorem dX4_setRange_9 : decode cX4_setRange 9 = .ok (.getfield 51, 3) := by decide +kernel
theorem dX4_setRange_12 : decode cX4_setRange 12 = .ok (.istore_n 2, 1) := by decide +kernel
theorem dX4_setRange_13 : decode cX4_setRange 13 = .ok (.aload_n 0, 1) := by decide +kernel
theorem dX4_setRange_14 : decode cX4_setRange 14 = .ok (.iload_n 1, 1) := by decide +kernel
theorem dX4_setRange_15 : decode cX4_setRange 15 = .ok (.putfield 51, 3) := by decide +kernel
theorem dX4_setRange_18 : decode cX4_setRange 18 = .ok (.iload_n 2, 1) := by decide +kernel
theorem dX4_setRange_19 : decode cX4_setRange 19 = .ok (.ireturn, 1) := by decide +kernel
set_option maxRecDepth 20000 in
theorem ggX4_block_X4_requireUnlike : GoodIn wsX4_block wsX4_requireUnlike := goodIn_ca (goodIn_ca (goodIn_r _ [6, 7, 8, 9, 10, 11, 5, 12, 13, 14, 15, 36, 37, 38, 39, 40, 41, 42, 43, 44, 45, 46, 47, 48, 49, 50, 51, 52, 53] (by decide +kernel) (by decide +kernel)) (goodIn_sub (fun _ h => List.mem_cons_of_mem _ (List.mem_append_left _ (List.mem_append_right _ h))) (by decide +kernel))) (goodIn_sub (fun _ h => List.mem_cons_of_mem _ (List.mem_append_right _ h)) (by decide +kernel))
set_option maxRecDepth 20000 in
theorem gX4_block_X4_requireUnlike : GoodIn wsX4_block (wsV RX4 109 RX4 yX4_requireUnlike wsX4_requireUnlike) := goodIn_app (goodIn_of _ (by decide +kernel)) ggX4_block_X4_requireUnlike
set_option maxRecDepth 20000 in
theorem ggX4_block_X1_joins : GoodIn wsX4_block wsX1_joins := goodIn_r _ [19, 20, 21, 22, 17, 23, 54] (by decide +kernel) (by decide +kernel)
set_option maxRecDepth 20000 in
theorem gX4_block_X1_joins_n112 : GoodIn wsX4_block (wsX1_joins) := ggX4_block_X1_joins
set_option maxRecDepth 20000 in
theorem ggX4_block_X1_cut : GoodIn wsX4_block wsX1_cut := goodIn_r _ [26, 20, 27, 28, 17, 29, 54] (by decide +kernel) (by decide +kernel)
set_option maxRecDepth 20000 in
theorem gX4_block_X1_cut_n116 : GoodIn wsX4_block (wsX1_cut) := ggX4_block_X1_cut
set_option maxRecDepth 20000 in
theorem ggX4_block_X1_join : GoodIn wsX4_block wsX1_join := goodIn_r _ [32, 20, 33, 34, 17, 35, 54] (by decide +kernel) (by decide +kernel)
set_option maxRecDepth 20000 in
theorem gX4_block_X1_join_n119 : GoodIn wsX4_block (wsX1_join) := ggX4_block_X1_join
theorem dX4_block_0 : decode cX4_block 0 = .ok (.aload_n 0, 1) := by decide +kernel
theorem dX4_block_1 : decode cX4_block 1 = .ok (.iload_n 1, 1) := by decide +kernel
theorem dX4_block_2 : decode cX4_block 2 = .ok (.iload_n 2, 1) := by decide +kernel
theorem dX4_block_3 : decode cX4_block 3 = .ok (.invokevirtual 109, 3) := by decide +kernel
theorem dX4_block_6 : decode cX4_block 6 = .ok (.aload_n 0, 1) := by decide +kernel
theorem dX4_block_7 : decode cX4_block 7 = .ok (.getfield 43, 3) := by decide +kernel
theorem dX4_block_10 : decode cX4_block 10 = .ok (.iload_n 1, 1) := by decide +kernel
theorem dX4_block_11 : decode cX4_block 11 = .ok (.iload_n 2, 1) := by decide +kernel
theorem dX4_block_12 : decode cX4_block 12 = .ok (.invokevirtual 112, 3) := by decide +kernel
theorem dX4_block_15 : decode cX4_block 15 = .ok (.ifCond .eq 14, 3) := by decide +kernel
theorem dX4_block_18 : decode cX4_block 18 = .ok (.aload_n 0, 1) := by decide +kernel
theorem dX4_block_19 : decode cX4_block 19 = .ok (.getfield 43, 3) := by decide +kernel
theorem dX4_block_22 : decode cX4_block 22 = .ok (.iload_n 1, 1) := by decide +kernel
theorem dX4_block_23 : decode cX4_block 23 = .ok (.iload_n 2, 1) := by decide +kernel
theorem dX4_block_24 : decode cX4_block 24 = .ok (.invokevirtual 116, 3) := by decide +kernel
theorem dX4_block_27 : decode cX4_block 27 = .ok (.iconst 0, 1) := by decide +kernel
theorem dX4_block_28 : decode cX4_block 28 = .ok (.ireturn, 1) := by decide +kernel
theorem dX4_block_29 : decode cX4_block 29 = .ok (.aload_n 0, 1) := by decide +kernel
theorem dX4_block_30 : decode cX4_block 30 = .ok (.getfield 43, 3) := by decide +kernel
theorem dX4_block_33 : decode cX4_block 33 = .ok (.iload_n 1, 1) := by decide +kernel
theorem dX4_block_34 : decode cX4_block 34 = .ok (.iload_n 2, 1) := by decide +kernel
theorem dX4_block_35 : decode cX4_block 35 = .ok (.invokevirtual 119, 3) := by decide +kernel
theorem dX4_block_38 : decode cX4_block 38 = .ok (.iconst 1, 1) := by decide +kernel
theorem dX4_block_39 : decode cX4_block 39 = .ok (.ireturn, 1) := by decide +kernel
theorem dX4_members_0 : decode cX4_members 0 = .ok (.aload_n 0, 1) := by decide +kernel
theorem dX4_members_1 : decode cX4_members 1 = .ok (.getfield 47, 3) := by decide +kernel
theorem dX4_members_4 : decode cX4_members 4 = .ok (.ireturn, 1) := by decide +kernel
set_option maxRecDepth 20000 in
theorem ggX4_xOf_X4_requireMember : GoodIn wsX4_xOf wsX4_requireMember := goodIn_ca (goodIn_r _ [6, 7, 8, 9, 10, 11, 12, 13, 14, 15, 16, 17, 18, 19, 20, 21, 22, 23, 24, 25, 26, 27] (by decide +kernel) (by decide +kernel)) (goodIn_sub (fun _ h => List.mem_cons_of_mem _ (List.mem_append_right _ h)) (by decide +kernel))
set_option maxRecDepth 20000 in
theorem gX4_xOf_X4_requireMember : GoodIn wsX4_xOf (wsV RX4 101 RX4 yX4_requireMember wsX4_requireMember) := goodIn_app (goodIn_of _ (by decide +kernel)) ggX4_xOf_X4_requireMember
theorem dX4_xOf_0 : decode cX4_xOf 0 = .ok (.aload_n 0, 1) := by decide +kernel
theorem dX4_xOf_1 : decode cX4_xOf 1 = .ok (.iload_n 1, 1) := by decide +kernel
theorem dX4_xOf_2 : decode cX4_xOf 2 = .ok (.invokevirtual 101, 3) := by decide +kernel
theorem dX4_xOf_5 : decode cX4_xOf 5 = .ok (.aload_n 0, 1) := by decide +kernel
theorem dX4_xOf_6 : decode cX4_xOf 6 = .ok (.getfield 9, 3) := by decide +kernel
theorem dX4_xOf_9 : decode cX4_xOf 9 = .ok (.iload_n 1, 1) := by decide +kernel
theorem dX4_xOf_10 : decode cX4_xOf 10 = .ok (.iaload, 1) := by decide +kernel
theorem dX4_xOf_11 : decode cX4_xOf 11 = .ok (.ireturn, 1) := by decide +kernel
set_option maxRecDepth 20000 in
theorem ggX4_yOf_X4_requireMember : GoodIn wsX4_yOf wsX4_requireMember := goodIn_ca (goodIn_r _ [6, 7, 8, 9, 10, 11, 12, 13, 14, 15, 16, 17, 18, 19, 20, 21, 22, 23, 24, 25, 26, 27] (by decide +kernel) (by decide +kernel)) (goodIn_sub (fun _ h => List.mem_cons_of_mem _ (List.mem_append_right _ h)) (by decide +kernel))
set_option maxRecDepth 20000 in
theorem gX4_yOf_X4_requireMember : GoodIn wsX4_yOf (wsV RX4 101 RX4 yX4_requireMember wsX4_requireMember) := goodIn_app (goodIn_of _ (by decide +kernel)) ggX4_yOf_X4_requireMember
theorem dX4_yOf_0 : decode cX4_yOf 0 = .ok (.aload_n 0, 1) := by decide +kernel
theorem dX4_yOf_1 : decode cX4_yOf 1 = .ok (.iload_n 1, 1) := by decide +kernel
theorem dX4_yOf_2 : decode cX4_yOf 2 = .ok (.invokevirtual 101, 3) := by decide +kernel
theorem dX4_yOf_5 : decode cX4_yOf 5 = .ok (.aload_n 0, 1) := by decide +kernel
theorem dX4_yOf_6 : decode cX4_yOf 6 = .ok (.getfield 13, 3) := by decide +kernel
theorem dX4_yOf_9 : decode cX4_yOf 9 = .ok (.iload_n 1, 1) := by decide +kernel
theorem dX4_yOf_10 : decode cX4_yOf 10 = .ok (.iaload, 1) := by decide +kernel
theorem dX4_yOf_11 : decode cX4_yOf 11 = .ok (.ireturn, 1) := by decide +kernel
set_option maxRecDepth 20000 in
theorem ggX4_areLinked_X4_requireMember : GoodIn wsX4_areLinked wsX4_requireMember := goodIn_ca (goodIn_r _ [5, 6, 7, 8, 30, 31, 32, 33, 34, 35, 36, 37, 38, 39, 40, 41, 42, 43, 44, 45, 46, 47] (by decide +kernel) (by decide +kernel)) (goodIn_sub (fun _ h => List.mem_cons_of_mem _ (List.mem_append_right _ h)) (by decide +kernel))
set_option maxRecDepth 20000 in
theorem gX4_areLinked_X4_requireMember : GoodIn wsX4_areLinked (wsV RX4 101 RX4 yX4_requireMember wsX4_requireMember) := goodIn_app (goodIn_of _ (by decide +kernel)) ggX4_areLinked_X4_requireMember
set_option maxRecDepth 20000 in
theorem ggX4_areLinked_X4_hears : GoodIn wsX4_areLinked wsX4_hears := goodIn_r _ [12, 13, 14, 15, 16, 17, 18, 19, 20, 21, 22, 23, 24, 25, 26, 4, 27, 28, 29, 30, 31, 32, 33, 34, 35, 36, 37, 38, 39, 40, 41, 42, 43, 44, 45, 46, 47, 48] (by decide +kernel) (by decide +kernel)
set_option maxRecDepth 20000 in
theorem gX4_areLinked_X4_hears : GoodIn wsX4_areLinked (wsV RX4 122 RX4 yX4_hears wsX4_hears) := goodIn_app (goodIn_of _ (by decide +kernel)) ggX4_areLinked_X4_hears
theorem dX4_areLinked_0 : decode cX4_areLinked 0 = .ok (.aload_n 0, 1) := by decide +kernel
theorem dX4_areLinked_1 : decode cX4_areLinked 1 = .ok (.iload_n 1, 1) := by decide +kernel
theorem dX4_areLinked_2 : decode cX4_areLinked 2 = .ok (.invokevirtual 101, 3) := by decide +kernel
theorem dX4_areLinked_5 : decode cX4_areLinked 5 = .ok (.aload_n 0, 1) := by decide +kernel
theorem dX4_areLinked_6 : decode cX4_areLinked 6 = .ok (.iload_n 2, 1) := by decide +kernel
theorem dX4_areLinked_7 : decode cX4_areLinked 7 = .ok (.invokevirtual 101, 3) := by decide +kernel
theorem dX4_areLinked_10 : decode cX4_areLinked 10 = .ok (.aload_n 0, 1) := by decide +kernel
theorem dX4_areLinked_11 : decode cX4_areLinked 11 = .ok (.iload_n 1, 1) := by decide +kernel
theorem dX4_areLinked_12 : decode cX4_areLinked 12 = .ok (.iload_n 2, 1) := by decide +kernel
theorem dX4_areLinked_13 : decode cX4_areLinked 13 = .ok (.invokevirtual 122, 3) := by decide +kernel
theorem dX4_areLinked_16 : decode cX4_areLinked 16 = .ok (.ireturn, 1) := by decide +kernel
set_option maxRecDepth 20000 in
theorem ggX4_links_X4_drawNet : GoodIn wsX4_links wsX4_drawNet := goodIn_r _ [6, 1, 7, 8, 9, 10, 11, 12, 13, 14, 15, 16, 17, 18, 19, 5, 20, 21, 22, 23, 24, 25, 26, 27, 28, 29, 30, 31, 32, 33, 34, 35, 36, 37, 38, 39, 40, 41, 56, 57, 58, 59, 60, 61, 62, 63, 64, 65, 66, 67, 68, 69, 70, 71, 72, 73, 74] (by decide +kernel) (by decide +kernel)
set_option maxRecDepth 20000 in
theorem gX4_links_X4_drawNet : GoodIn wsX4_links (wsV RX4 125 RX4 yX4_drawNet wsX4_drawNet) := goodIn_app (goodIn_of _ (by decide +kernel)) ggX4_links_X4_drawNet
set_option maxRecDepth 20000 in
theorem ggX4_links_X1_pairCount : GoodIn wsX4_links wsX1_pairCount := goodIn_r _ [44, 45, 46, 47, 9, 48, 12, 49, 50, 51, 52, 53, 54, 55, 74] (by decide +kernel) (by decide +kernel)
set_option maxRecDepth 20000 in
theorem gX4_links_X1_pairCount_n128 : GoodIn wsX4_links (wsX1_pairCount) := ggX4_links_X1_pairCount
theorem dX4_links_0 : decode cX4_links 0 = .ok (.aload_n 0, 1) := by decide +kernel
theorem dX4_links_1 : decode cX4_links 1 = .ok (.invokevirtual 125, 3) := by decide +kernel
theorem dX4_links_4 : decode cX4_links 4 = .ok (.aload_n 0, 1) := by decide +kernel
theorem dX4_links_5 : decode cX4_links 5 = .ok (.getfield 54, 3) := by decide +kernel
theorem dX4_links_8 : decode cX4_links 8 = .ok (.invokevirtual 128, 3) := by decide +kernel
theorem dX4_links_11 : decode cX4_links 11 = .ok (.ireturn, 1) := by decide +kernel
set_option maxRecDepth 20000 in
theorem ggX4_degree_X4_requireMember : GoodIn wsX4_degree wsX4_requireMember := goodIn_ca (goodIn_r _ [6, 7, 8, 9, 58, 59, 60, 61, 62, 63, 64, 65, 66, 67, 68, 69, 70, 71, 72, 73, 74, 75] (by decide +kernel) (by decide +kernel)) (goodIn_sub (fun _ h => List.mem_cons_of_mem _ (List.mem_append_right _ h)) (by decide +kernel))
set_option maxRecDepth 20000 in
theorem gX4_degree_X4_requireMember : GoodIn wsX4_degree (wsV RX4 101 RX4 yX4_requireMember wsX4_requireMember) := goodIn_app (goodIn_of _ (by decide +kernel)) ggX4_degree_X4_requireMember
set_option maxRecDepth 20000 in
theorem ggX4_degree_X4_drawNet : GoodIn wsX4_degree wsX4_drawNet := goodIn_r _ [13, 1, 9, 14, 15, 16, 17, 18, 19, 20, 21, 22, 23, 24, 25, 5, 26, 27, 28, 29, 30, 31, 32, 33, 34, 35, 36, 37, 38, 39, 40, 41, 42, 43, 44, 45, 46, 47, 58, 59, 60, 61, 62, 63, 64, 65, 66, 67, 68, 69, 70, 71, 72, 73, 74, 75, 76] (by decide +kernel) (by decide +kernel)
set_option maxRecDepth 20000 in
theorem gX4_degree_X4_drawNet : GoodIn wsX4_degree (wsV RX4 125 RX4 yX4_drawNet wsX4_drawNet) := goodIn_app (goodIn_of _ (by decide +kernel)) ggX4_degree_X4_drawNet
set_option maxRecDepth 20000 in
theorem ggX4_degree_X1_degreeOf : GoodIn wsX4_degree wsX1_degreeOf := goodIn_r _ [50, 18, 51, 52, 53, 54, 55, 56, 57, 76] (by decide +kernel) (by decide +kernel)
set_option maxRecDepth 20000 in
theorem gX4_degree_X1_degreeOf_n132 : GoodIn wsX4_degree (wsX1_degreeOf) := ggX4_degree_X1_degreeOf
theorem dX4_degree_0 : decode cX4_degree 0 = .ok (.aload_n 0, 1) := by decide +kernel
theorem dX4_degree_1 : decode cX4_degree 1 = .ok (.iload_n 1, 1) := by decide +kernel
theorem dX4_degree_2 : decode cX4_degree 2 = .ok (.invokevirtual 101, 3) := by decide +kernel
theorem dX4_degree_5 : decode cX4_degree 5 = .ok (.aload_n 0, 1) := by decide +kernel
theorem dX4_degree_6 : decode cX4_degree 6 = .ok (.invokevirtual 125, 3) := by decide +kernel
theorem dX4_degree_9 : decode cX4_degree 9 = .ok (.aload_n 0, 1) := by decide +kernel
theorem dX4_degree_10 : decode cX4_degree 10 = .ok (.getfield 54, 3) := by decide +kernel
theorem dX4_degree_13 : decode cX4_degree 13 = .ok (.iload_n 1, 1) := by decide +kernel
theorem dX4_degree_14 : decode cX4_degree 14 = .ok (.invokevirtual 132, 3) := by decide +kernel
theorem dX4_degree_17 : decode cX4_degree 17 = .ok (.ireturn, 1) := by decide +kernel
set_option maxRecDepth 20000 in
theorem ggX4_groups_X4_drawNet : GoodIn wsX4_groups wsX4_drawNet := goodIn_r _ [5, 6, 7, 8, 9, 10, 11, 12, 13, 14, 15, 16, 17, 18, 19, 4, 20, 21, 22, 23, 24, 25, 26, 27, 28, 29, 30, 31, 32, 33, 34, 35, 36, 37, 38, 39, 40, 41, 49, 50, 51, 52, 53, 54, 55, 56, 57, 58, 59, 60, 61, 62, 63, 64, 65, 66, 67] (by decide +kernel) (by decide +kernel)
set_option maxRecDepth 20000 in
theorem gX4_groups_X4_drawNet : GoodIn wsX4_groups (wsV RX4 125 RX4 yX4_drawNet wsX4_drawNet) := goodIn_app (goodIn_of _ (by decide +kernel)) ggX4_groups_X4_drawNet
set_option maxRecDepth 20000 in
theorem ggX4_groups_X4_countGroups : GoodIn wsX4_groups wsX4_countGroups := goodIn_r _ [45, 7, 21, 6, 28, 9, 29, 46, 47, 48, 12, 39, 40, 41, 27, 49, 50, 51, 52, 53, 54, 55, 56, 57, 58, 59, 60, 61, 62, 63, 64, 65, 66, 67] (by decide +kernel) (by decide +kernel)
set_option maxRecDepth 20000 in
theorem gX4_groups_X4_countGroups : GoodIn wsX4_groups (wsV RX4 136 RX4 yX4_countGroups wsX4_countGroups) := goodIn_app (goodIn_of _ (by decide +kernel)) ggX4_groups_X4_countGroups
theorem dX4_groups_0 : decode cX4_groups 0 = .ok (.aload_n 0, 1) := by decide +kernel
theorem dX4_groups_1 : decode cX4_groups 1 = .ok (.invokevirtual 125, 3) := by decide +kernel
theorem dX4_groups_4 : decode cX4_groups 4 = .ok (.aload_n 0, 1) := by decide +kernel
theorem dX4_groups_5 : decode cX4_groups 5 = .ok (.invokevirtual 136, 3) := by decide +kernel
theorem dX4_groups_8 : decode cX4_groups 8 = .ok (.ireturn, 1) := by decide +kernel
set_option maxRecDepth 20000 in
theorem ggX4_leader_X4_requireMember : GoodIn wsX4_leader wsX4_requireMember := goodIn_ca (goodIn_r _ [8, 9, 10, 3, 56, 57, 58, 59, 60, 61, 62, 63, 64, 65, 66, 67, 68, 69, 70, 71, 72, 73] (by decide +kernel) (by decide +kernel)) (goodIn_sub (fun _ h => List.mem_cons_of_mem _ (List.mem_append_right _ h)) (by decide +kernel))
set_option maxRecDepth 20000 in
theorem gX4_leader_X4_requireMember : GoodIn wsX4_leader (wsV RX4 101 RX4 yX4_requireMember wsX4_requireMember) := goodIn_app (goodIn_of _ (by decide +kernel)) ggX4_leader_X4_requireMember
set_option maxRecDepth 20000 in
theorem ggX4_leader_X4_drawNet : GoodIn wsX4_leader wsX4_drawNet := goodIn_r _ [14, 2, 3, 15, 16, 17, 18, 19, 20, 21, 22, 23, 24, 25, 26, 7, 27, 1, 28, 29, 30, 31, 32, 33, 34, 35, 36, 37, 38, 39, 40, 41, 42, 43, 44, 45, 46, 47, 56, 57, 58, 59, 60, 61, 62, 63, 64, 65, 66, 67, 68, 69, 70, 71, 72, 73, 74] (by decide +kernel) (by decide +kernel)
set_option maxRecDepth 20000 in
theorem gX4_leader_X4_drawNet : GoodIn wsX4_leader (wsV RX4 125 RX4 yX4_drawNet wsX4_drawNet) := goodIn_app (goodIn_of _ (by decide +kernel)) ggX4_leader_X4_drawNet
set_option maxRecDepth 20000 in
theorem ggX4_leader_X1_groupOf : GoodIn wsX4_leader wsX1_groupOf := goodIn_r _ [50, 19, 45, 46, 16, 47, 33, 34, 35, 74] (by decide +kernel) (by decide +kernel)
set_option maxRecDepth 20000 in
theorem gX4_leader_X1_groupOf_n139 : GoodIn wsX4_leader (wsX1_groupOf) := ggX4_leader_X1_groupOf
set_option maxRecDepth 20000 in
theorem ggX4_leader_X1_holds : GoodIn wsX4_leader wsX1_holds := goodIn_r _ [35] (by decide +kernel) (by decide +kernel)
set_option maxRecDepth 20000 in
theorem gX4_leader_X1_holds_n142 : GoodIn wsX4_leader (wsX1_holds) := ggX4_leader_X1_holds
set_option maxRecDepth 20000 in
theorem ggX4_leader_X4_outranks : GoodIn wsX4_leader wsX4_outranks := goodIn_r _ [54, 55, 56, 57, 58, 59, 60, 61, 62, 63, 64, 65, 66, 67, 68, 69, 70, 71, 72, 73] (by decide +kernel) (by decide +kernel)
set_option maxRecDepth 20000 in
theorem gX4_leader_X4_outranks : GoodIn wsX4_leader (wsV RX4 145 RX4 yX4_outranks wsX4_outranks) := goodIn_app (goodIn_of _ (by decide +kernel)) ggX4_leader_X4_outranks
theorem dX4_leader_0 : decode cX4_leader 0 = .ok (.aload_n 0, 1) := by decide +kernel
theorem dX4_leader_1 : decode cX4_leader 1 = .ok (.iload_n 1, 1) := by decide +kernel
theorem dX4_leader_2 : decode cX4_leader 2 = .ok (.invokevirtual 101, 3) := by decide +kernel
theorem dX4_leader_5 : decode cX4_leader 5 = .ok (.aload_n 0, 1) := by decide +kernel
theorem dX4_leader_6 : decode cX4_leader 6 = .ok (.getfield 16, 3) := by decide +kernel
theorem dX4_leader_9 : decode cX4_leader 9 = .ok (.iload_n 1, 1) := by decide +kernel
theorem dX4_leader_10 : decode cX4_leader 10 = .ok (.baload, 1) := by decide +kernel
theorem dX4_leader_11 : decode cX4_leader 11 = .ok (.ifCond .ne 5, 3) := by decide +kernel
theorem dX4_leader_14 : decode cX4_leader 14 = .ok (.iconst (-1), 1) := by decide +kernel
theorem dX4_leader_15 : decode cX4_leader 15 = .ok (.ireturn, 1) := by decide +kernel
theorem dX4_leader_16 : decode cX4_leader 16 = .ok (.aload_n 0, 1) := by decide +kernel
theorem dX4_leader_17 : decode cX4_leader 17 = .ok (.invokevirtual 125, 3) := by decide +kernel
theorem dX4_leader_20 : decode cX4_leader 20 = .ok (.aload_n 0, 1) := by decide +kernel
theorem dX4_leader_21 : decode cX4_leader 21 = .ok (.getfield 54, 3) := by decide +kernel
theorem dX4_leader_24 : decode cX4_leader 24 = .ok (.iload_n 1, 1) := by decide +kernel
theorem dX4_leader_25 : decode cX4_leader 25 = .ok (.invokevirtual 139, 3) := by decide +kernel
theorem dX4_leader_28 : decode cX4_leader 28 = .ok (.istore_n 2, 1) := by decide +kernel
theorem dX4_leader_29 : decode cX4_leader 29 = .ok (.iload_n 1, 1) := by decide +kernel
theorem dX4_leader_30 : decode cX4_leader 30 = .ok (.istore_n 3, 1) := by decide +kernel
theorem dX4_leader_31 : decode cX4_leader 31 = .ok (.iconst 0, 1) := by decide +kernel
theorem dX4_leader_32 : decode cX4_leader 32 = .ok (.istore 4, 2) := by decide +kernel
theorem dX4_leader_34 : decode cX4_leader 34 = .ok (.iload 4, 2) := by decide +kernel
theorem dX4_leader_36 : decode cX4_leader 36 = .ok (.aload_n 0, 1) := by decide +kernel
theorem dX4_leader_37 : decode cX4_leader 37 = .ok (.getfield 47, 3) := by decide +kernel
theorem dX4_leader_40 : decode cX4_leader 40 = .ok (.if_icmp .ge 31, 3) := by decide +kernel
theorem dX4_leader_43 : decode cX4_leader 43 = .ok (.iload_n 2, 1) := by decide +kernel
theorem dX4_leader_44 : decode cX4_leader 44 = .ok (.iload 4, 2) := by decide +kernel
theorem dX4_leader_46 : decode cX4_leader 46 = .ok (.invokestatic 142, 3) := by decide +kernel
theorem dX4_leader_49 : decode cX4_leader 49 = .ok (.ifCond .eq 16, 3) := by decide +kernel
theorem dX4_leader_52 : decode cX4_leader 52 = .ok (.aload_n 0, 1) := by decide +kernel
theorem dX4_leader_53 : decode cX4_leader 53 = .ok (.iload 4, 2) := by decide +kernel
theorem dX4_leader_55 : decode cX4_leader 55 = .ok (.iload_n 3, 1) := by decide +kernel
theorem dX4_leader_56 : decode cX4_leader 56 = .ok (.invokevirtual 145, 3) := by decide +kernel
theorem dX4_leader_59 : decode cX4_leader 59 = .ok (.ifCond .eq 6, 3) := by decide +kernel
theorem dX4_leader_62 : decode cX4_leader 62 = .ok (.iload 4, 2) := by decide +kernel
theorem dX4_leader_64 : decode cX4_leader 64 = .ok (.istore_n 3, 1) := by decide +kernel
theorem dX4_leader_65 : decode cX4_leader 65 = .ok (.iinc 4 1, 3) := by decide +kernel
theorem dX4_leader_68 : decode cX4_leader 68 = .ok (.goto (-34), 3) := by decide +kernel
end
section
theorem dX4_leader_71 : decode cX4_leader 71 = .ok (.iload_n 3, 1) := by decide +kernel
theorem dX4_leader_72 : decode cX4_leader 72 = .ok (.ireturn, 1) := by decide +kernel
set_option maxRecDepth 20000 in
theorem ggX4_trees_X4_drawNet : GoodIn wsX4_trees wsX4_drawNet := goodIn_r _ [7, 2, 8, 9, 10, 11, 12, 13, 14, 15, 16, 17, 18, 19, 20, 6, 21, 22, 23, 24, 25, 26, 27, 28, 29, 30, 31, 32, 33, 34, 35, 36, 37, 38, 39, 40, 41, 42, 80, 81, 82, 83, 84, 85, 86, 87, 88, 89, 90, 91, 92, 93, 94, 95, 96, 97, 98] (by decide +kernel) (by decide +kernel)
set_option maxRecDepth 20000 in
theorem gX4_trees_X4_drawNet : GoodIn wsX4_trees (wsV RX4 125 RX4 yX4_drawNet wsX4_drawNet) := goodIn_app (goodIn_of _ (by decide +kernel)) ggX4_trees_X4_drawNet
set_option maxRecDepth 20000 in
theorem ggX4_trees_X4_upSet : GoodIn wsX4_trees wsX4_upSet := goodIn_r _ [46, 8, 22, 41, 10, 42, 80, 81, 82, 83, 84, 85, 86, 87, 88, 89, 90, 91, 92, 93, 94, 95, 96, 97] (by decide +kernel) (by decide +kernel)
set_option maxRecDepth 20000 in
theorem gX4_trees_X4_upSet : GoodIn wsX4_trees (wsV RX4 148 RX4 yX4_upSet wsX4_upSet) := goodIn_app (goodIn_of _ (by decide +kernel)) ggX4_trees_X4_upSet
set_option maxRecDepth 20000 in
theorem ggX4_trees_X3_treesOf : GoodIn wsX4_trees wsX3_treesOf := goodIn_r _ [50, 51, 52, 53, 54, 55, 56, 10, 57, 58, 59, 60, 48, 61, 62, 29, 30, 63, 64, 65, 66, 25, 26, 27, 13, 28, 67, 68, 69, 70, 71, 72, 73, 74, 75, 76, 77, 78, 79, 99, 98] (by decide +kernel) (by decide +kernel)
set_option maxRecDepth 20000 in
theorem gX4_trees_X3_treesOf_n151 : GoodIn wsX4_trees (wsX3_treesOf) := ggX4_trees_X3_treesOf
theorem dX4_trees_0 : decode cX4_trees 0 = .ok (.aload_n 0, 1) := by decide +kernel
theorem dX4_trees_1 : decode cX4_trees 1 = .ok (.invokevirtual 125, 3) := by decide +kernel
theorem dX4_trees_4 : decode cX4_trees 4 = .ok (.aload_n 0, 1) := by decide +kernel
theorem dX4_trees_5 : decode cX4_trees 5 = .ok (.getfield 80, 3) := by decide +kernel
theorem dX4_trees_8 : decode cX4_trees 8 = .ok (.aload_n 0, 1) := by decide +kernel
theorem dX4_trees_9 : decode cX4_trees 9 = .ok (.getfield 54, 3) := by decide +kernel
theorem dX4_trees_12 : decode cX4_trees 12 = .ok (.aload_n 0, 1) := by decide +kernel
theorem dX4_trees_13 : decode cX4_trees 13 = .ok (.invokevirtual 148, 3) := by decide +kernel
theorem dX4_trees_16 : decode cX4_trees 16 = .ok (.invokevirtual 151, 3) := by decide +kernel
theorem dX4_trees_19 : decode cX4_trees 19 = .ok (.lreturn, 1) := by decide +kernel
set_option maxRecDepth 20000 in
theorem ggX4_setEstimate_X4_requireMember : GoodIn wsX4_setEstimate wsX4_requireMember := goodIn_ca (goodIn_r _ [6, 7, 8, 9, 20, 21, 22, 23, 24, 25, 26, 27, 28, 29, 30, 31, 32, 33, 34, 35, 36, 37] (by decide +kernel) (by decide +kernel)) (goodIn_sub (fun _ h => List.mem_cons_of_mem _ (List.mem_append_left _ (List.mem_append_right _ h))) (by decide +kernel))
set_option maxRecDepth 20000 in
theorem gX4_setEstimate_X4_requireMember : GoodIn wsX4_setEstimate (wsV RX4 101 RX4 yX4_requireMember wsX4_requireMember) := goodIn_app (goodIn_of _ (by decide +kernel)) ggX4_setEstimate_X4_requireMember
set_option maxRecDepth 20000 in
theorem ggX4_setEstimate_X4_requireValue : GoodIn wsX4_setEstimate wsX4_requireValue := goodIn_ca (goodIn_r _ [12, 13, 14, 15, 16, 5, 17, 18, 19] (by decide +kernel) (by decide +kernel)) (goodIn_sub (fun _ h => List.mem_cons_of_mem _ (List.mem_append_right _ h)) (by decide +kernel))
set_option maxRecDepth 20000 in
theorem gX4_setEstimate_X4_requireValue : GoodIn wsX4_setEstimate (va_wsS RX4 155 yX4_requireValue wsX4_requireValue) := goodIn_app (goodIn_of _ (by decide +kernel)) ggX4_setEstimate_X4_requireValue
theorem dX4_setEstimate_0 : decode cX4_setEstimate 0 = .ok (.aload_n 0, 1) := by decide +kernel
theorem dX4_setEstimate_1 : decode cX4_setEstimate 1 = .ok (.iload_n 1, 1) := by decide +kernel
theorem dX4_setEstimate_2 : decode cX4_setEstimate 2 = .ok (.invokevirtual 101, 3) := by decide +kernel
theorem dX4_setEstimate_5 : decode cX4_setEstimate 5 = .ok (.iload_n 2, 1) := by decide +kernel
theorem dX4_setEstimate_6 : decode cX4_setEstimate 6 = .ok (.invokestatic 155, 3) := by decide +kernel
theorem dX4_setEstimate_9 : decode cX4_setEstimate 9 = .ok (.aload_n 0, 1) := by decide +kernel
theorem dX4_setEstimate_10 : decode cX4_setEstimate 10 = .ok (.getfield 23, 3) := by decide +kernel
theorem dX4_setEstimate_13 : decode cX4_setEstimate 13 = .ok (.iload_n 1, 1) := by decide +kernel
theorem dX4_setEstimate_14 : decode cX4_setEstimate 14 = .ok (.iaload, 1) := by decide +kernel
theorem dX4_setEstimate_15 : decode cX4_setEstimate 15 = .ok (.istore_n 3, 1) := by decide +kernel
theorem dX4_setEstimate_16 : decode cX4_setEstimate 16 = .ok (.aload_n 0, 1) := by decide +kernel
theorem dX4_setEstimate_17 : decode cX4_setEstimate 17 = .ok (.getfield 23, 3) := by decide +kernel
theorem dX4_setEstimate_20 : decode cX4_setEstimate 20 = .ok (.iload_n 1, 1) := by decide +kernel
theorem dX4_setEstimate_21 : decode cX4_setEstimate 21 = .ok (.iload_n 2, 1) := by decide +kernel
theorem dX4_setEstimate_22 : decode cX4_setEstimate 22 = .ok (.iastore, 1) := by decide +kernel
theorem dX4_setEstimate_23 : decode cX4_setEstimate 23 = .ok (.iload_n 3, 1) := by decide +kernel
theorem dX4_setEstimate_24 : decode cX4_setEstimate 24 = .ok (.ireturn, 1) := by decide +kernel
set_option maxRecDepth 20000 in
theorem ggX4_estimate_X4_requireMember : GoodIn wsX4_estimate wsX4_requireMember := goodIn_ca (goodIn_r _ [6, 7, 8, 9, 10, 11, 12, 13, 14, 15, 16, 17, 18, 19, 20, 21, 22, 23, 24, 25, 26, 27] (by decide +kernel) (by decide +kernel)) (goodIn_sub (fun _ h => List.mem_cons_of_mem _ (List.mem_append_right _ h)) (by decide +kernel))
set_option maxRecDepth 20000 in
theorem gX4_estimate_X4_requireMember : GoodIn wsX4_estimate (wsV RX4 101 RX4 yX4_requireMember wsX4_requireMember) := goodIn_app (goodIn_of _ (by decide +kernel)) ggX4_estimate_X4_requireMember
theorem dX4_estimate_0 : decode cX4_estimate 0 = .ok (.aload_n 0, 1) := by decide +kernel
theorem dX4_estimate_1 : decode cX4_estimate 1 = .ok (.iload_n 1, 1) := by decide +kernel
theorem dX4_estimate_2 : decode cX4_estimate 2 = .ok (.invokevirtual 101, 3) := by decide +kernel
theorem dX4_estimate_5 : decode cX4_estimate 5 = .ok (.aload_n 0, 1) := by decide +kernel
theorem dX4_estimate_6 : decode cX4_estimate 6 = .ok (.getfield 23, 3) := by decide +kernel
theorem dX4_estimate_9 : decode cX4_estimate 9 = .ok (.iload_n 1, 1) := by decide +kernel
theorem dX4_estimate_10 : decode cX4_estimate 10 = .ok (.iaload, 1) := by decide +kernel
theorem dX4_estimate_11 : decode cX4_estimate 11 = .ok (.ireturn, 1) := by decide +kernel
set_option maxRecDepth 20000 in
theorem ggX4_agree_X4_requireRounds : GoodIn wsX4_agree wsX4_requireRounds := goodIn_ca (goodIn_r _ [4, 5, 6, 3, 7, 8, 9] (by decide +kernel) (by decide +kernel)) (goodIn_sub (fun _ h => List.mem_cons_of_mem _ (List.mem_append_right _ h)) (by decide +kernel))
set_option maxRecDepth 20000 in
theorem gX4_agree_X4_requireRounds : GoodIn wsX4_agree (va_wsS RX4 158 yX4_requireRounds wsX4_requireRounds) := goodIn_app (goodIn_of _ (by decide +kernel)) ggX4_agree_X4_requireRounds
set_option maxRecDepth 20000 in
theorem ggX4_agree_X4_drawNet : GoodIn wsX4_agree wsX4_drawNet := goodIn_r _ [13, 14, 15, 16, 17, 18, 19, 20, 21, 22, 23, 24, 25, 26, 27, 3, 28, 29, 30, 31, 32, 33, 34, 35, 36, 37, 38, 39, 40, 41, 42, 43, 44, 45, 46, 47, 48, 49, 86, 87, 88, 89, 90, 91, 92, 93, 94, 95, 96, 97, 98, 99, 100, 101, 102, 103, 104] (by decide +kernel) (by decide +kernel)
set_option maxRecDepth 20000 in
theorem gX4_agree_X4_drawNet : GoodIn wsX4_agree (wsV RX4 125 RX4 yX4_drawNet wsX4_drawNet) := goodIn_app (goodIn_of _ (by decide +kernel)) ggX4_agree_X4_drawNet
set_option maxRecDepth 20000 in
theorem ggX4_agree_X4_exchangeEstimates : GoodIn wsX4_agree wsX4_exchangeEstimates := goodIn_r _ [53, 54, 15, 14, 55, 56, 22, 23, 24, 32, 17, 33, 34, 20, 35, 36, 37, 57, 58, 59, 3, 60, 61, 62, 63, 64, 65, 66, 67, 68, 69, 70, 71, 72, 73, 74, 75, 76, 77, 78, 86, 87, 88, 89, 90, 91, 92, 93, 94, 95, 96, 97, 98, 99, 100, 101, 102, 103, 104] (by decide +kernel) (by decide +kernel)
set_option maxRecDepth 20000 in
theorem gX4_agree_X4_exchangeEstimates : GoodIn wsX4_agree (wsV RX4 161 RX4 yX4_exchangeEstimates wsX4_exchangeEstimates) := goodIn_app (goodIn_of _ (by decide +kernel)) ggX4_agree_X4_exchangeEstimates
set_option maxRecDepth 20000 in
theorem ggX4_agree_X4_spanOfEstimates : GoodIn wsX4_agree wsX4_spanOfEstimates := goodIn_r _ [82, 15, 55, 83, 84, 63, 85, 61, 62, 64, 86, 87, 88, 89, 90, 91, 92, 93, 94, 95, 96, 97, 98, 99, 100, 101, 102, 103] (by decide +kernel) (by decide +kernel)
set_option maxRecDepth 20000 in
theorem gX4_agree_X4_spanOfEstimates : GoodIn wsX4_agree (wsV RX4 164 RX4 yX4_spanOfEstimates wsX4_spanOfEstimates) := goodIn_app (goodIn_of _ (by decide +kernel)) ggX4_agree_X4_spanOfEstimates
theorem dX4_agree_0 : decode cX4_agree 0 = .ok (.iload_n 1, 1) := by decide +kernel
theorem dX4_agree_1 : decode cX4_agree 1 = .ok (.invokestatic 158, 3) := by decide +kernel
theorem dX4_agree_4 : decode cX4_agree 4 = .ok (.aload_n 0, 1) := by decide +kernel
theorem dX4_agree_5 : decode cX4_agree 5 = .ok (.invokevirtual 125, 3) := by decide +kernel
theorem dX4_agree_8 : decode cX4_agree 8 = .ok (.iconst 0, 1) := by decide +kernel
theorem dX4_agree_9 : decode cX4_agree 9 = .ok (.istore_n 2, 1) := by decide +kernel
theorem dX4_agree_10 : decode cX4_agree 10 = .ok (.iload_n 2, 1) := by decide +kernel
theorem dX4_agree_11 : decode cX4_agree 11 = .ok (.iload_n 1, 1) := by decide +kernel
theorem dX4_agree_12 : decode cX4_agree 12 = .ok (.if_icmp .ge 13, 3) := by decide +kernel
theorem dX4_agree_15 : decode cX4_agree 15 = .ok (.aload_n 0, 1) := by decide +kernel
theorem dX4_agree_16 : decode cX4_agree 16 = .ok (.invokevirtual 161, 3) := by decide +kernel
theorem dX4_agree_19 : decode cX4_agree 19 = .ok (.iinc 2 1, 3) := by decide +kernel
theorem dX4_agree_22 : decode cX4_agree 22 = .ok (.goto (-12), 3) := by decide +kernel
theorem dX4_agree_25 : decode cX4_agree 25 = .ok (.aload_n 0, 1) := by decide +kernel
theorem dX4_agree_26 : decode cX4_agree 26 = .ok (.invokevirtual 164, 3) := by decide +kernel
theorem dX4_agree_29 : decode cX4_agree 29 = .ok (.ireturn, 1) := by decide +kernel
set_option maxRecDepth 20000 in
theorem ggX4_setSum_X4_requireMember : GoodIn wsX4_setSum wsX4_requireMember := goodIn_ca (goodIn_r _ [6, 7, 8, 9, 20, 21, 22, 23, 24, 25, 26, 27, 28, 29, 30, 31, 32, 33, 34, 35, 36, 37] (by decide +kernel) (by decide +kernel)) (goodIn_sub (fun _ h => List.mem_cons_of_mem _ (List.mem_append_left _ (List.mem_append_right _ h))) (by decide +kernel))
set_option maxRecDepth 20000 in
theorem gX4_setSum_X4_requireMember : GoodIn wsX4_setSum (wsV RX4 101 RX4 yX4_requireMember wsX4_requireMember) := goodIn_app (goodIn_of _ (by decide +kernel)) ggX4_setSum_X4_requireMember
set_option maxRecDepth 20000 in
theorem ggX4_setSum_X4_requireValue : GoodIn wsX4_setSum wsX4_requireValue := goodIn_ca (goodIn_r _ [12, 13, 14, 15, 16, 5, 17, 18, 19] (by decide +kernel) (by decide +kernel)) (goodIn_sub (fun _ h => List.mem_cons_of_mem _ (List.mem_append_right _ h)) (by decide +kernel))
set_option maxRecDepth 20000 in
theorem gX4_setSum_X4_requireValue : GoodIn wsX4_setSum (va_wsS RX4 155 yX4_requireValue wsX4_requireValue) := goodIn_app (goodIn_of _ (by decide +kernel)) ggX4_setSum_X4_requireValue
theorem dX4_setSum_0 : decode cX4_setSum 0 = .ok (.aload_n 0, 1) := by decide +kernel
theorem dX4_setSum_1 : decode cX4_setSum 1 = .ok (.iload_n 1, 1) := by decide +kernel
theorem dX4_setSum_2 : decode cX4_setSum 2 = .ok (.invokevirtual 101, 3) := by decide +kernel
theorem dX4_setSum_5 : decode cX4_setSum 5 = .ok (.iload_n 2, 1) := by decide +kernel
theorem dX4_setSum_6 : decode cX4_setSum 6 = .ok (.invokestatic 155, 3) := by decide +kernel
theorem dX4_setSum_9 : decode cX4_setSum 9 = .ok (.aload_n 0, 1) := by decide +kernel
theorem dX4_setSum_10 : decode cX4_setSum 10 = .ok (.getfield 26, 3) := by decide +kernel
theorem dX4_setSum_13 : decode cX4_setSum 13 = .ok (.iload_n 1, 1) := by decide +kernel
theorem dX4_setSum_14 : decode cX4_setSum 14 = .ok (.iaload, 1) := by decide +kernel
theorem dX4_setSum_15 : decode cX4_setSum 15 = .ok (.istore_n 3, 1) := by decide +kernel
theorem dX4_setSum_16 : decode cX4_setSum 16 = .ok (.aload_n 0, 1) := by decide +kernel
theorem dX4_setSum_17 : decode cX4_setSum 17 = .ok (.getfield 26, 3) := by decide +kernel
theorem dX4_setSum_20 : decode cX4_setSum 20 = .ok (.iload_n 1, 1) := by decide +kernel
theorem dX4_setSum_21 : decode cX4_setSum 21 = .ok (.iload_n 2, 1) := by decide +kernel
theorem dX4_setSum_22 : decode cX4_setSum 22 = .ok (.iastore, 1) := by decide +kernel
theorem dX4_setSum_23 : decode cX4_setSum 23 = .ok (.iload_n 3, 1) := by decide +kernel
theorem dX4_setSum_24 : decode cX4_setSum 24 = .ok (.ireturn, 1) := by decide +kernel
set_option maxRecDepth 20000 in
theorem ggX4_sum_X4_requireMember : GoodIn wsX4_sum wsX4_requireMember := goodIn_ca (goodIn_r _ [6, 7, 8, 9, 10, 11, 12, 13, 14, 15, 16, 17, 18, 19, 20, 21, 22, 23, 24, 25, 26, 27] (by decide +kernel) (by decide +kernel)) (goodIn_sub (fun _ h => List.mem_cons_of_mem _ (List.mem_append_right _ h)) (by decide +kernel))
set_option maxRecDepth 20000 in
theorem gX4_sum_X4_requireMember : GoodIn wsX4_sum (wsV RX4 101 RX4 yX4_requireMember wsX4_requireMember) := goodIn_app (goodIn_of _ (by decide +kernel)) ggX4_sum_X4_requireMember
theorem dX4_sum_0 : decode cX4_sum 0 = .ok (.aload_n 0, 1) := by decide +kernel
theorem dX4_sum_1 : decode cX4_sum 1 = .ok (.iload_n 1, 1) := by decide +kernel
theorem dX4_sum_2 : decode cX4_sum 2 = .ok (.invokevirtual 101, 3) := by decide +kernel
theorem dX4_sum_5 : decode cX4_sum 5 = .ok (.aload_n 0, 1) := by decide +kernel
theorem dX4_sum_6 : decode cX4_sum 6 = .ok (.getfield 26, 3) := by decide +kernel
theorem dX4_sum_9 : decode cX4_sum 9 = .ok (.iload_n 1, 1) := by decide +kernel
theorem dX4_sum_10 : decode cX4_sum 10 = .ok (.iaload, 1) := by decide +kernel
theorem dX4_sum_11 : decode cX4_sum 11 = .ok (.ireturn, 1) := by decide +kernel
set_option maxRecDepth 20000 in
theorem ggX4_weight_X4_requireMember : GoodIn wsX4_weight wsX4_requireMember := goodIn_ca (goodIn_r _ [6, 7, 8, 9, 10, 11, 12, 13, 14, 15, 16, 17, 18, 19, 20, 21, 22, 23, 24, 25, 26, 27] (by decide +kernel) (by decide +kernel)) (goodIn_sub (fun _ h => List.mem_cons_of_mem _ (List.mem_append_right _ h)) (by decide +kernel))
set_option maxRecDepth 20000 in
theorem gX4_weight_X4_requireMember : GoodIn wsX4_weight (wsV RX4 101 RX4 yX4_requireMember wsX4_requireMember) := goodIn_app (goodIn_of _ (by decide +kernel)) ggX4_weight_X4_requireMember
theorem dX4_weight_0 : decode cX4_weight 0 = .ok (.aload_n 0, 1) := by decide +kernel
theorem dX4_weight_1 : decode cX4_weight 1 = .ok (.iload_n 1, 1) := by decide +kernel
theorem dX4_weight_2 : decode cX4_weight 2 = .ok (.invokevirtual 101, 3) := by decide +kernel
theorem dX4_weight_5 : decode cX4_weight 5 = .ok (.aload_n 0, 1) := by decide +kernel
theorem dX4_weight_6 : decode cX4_weight 6 = .ok (.getfield 29, 3) := by decide +kernel
theorem dX4_weight_9 : decode cX4_weight 9 = .ok (.iload_n 1, 1) := by decide +kernel
theorem dX4_weight_10 : decode cX4_weight 10 = .ok (.iaload, 1) := by decide +kernel
theorem dX4_weight_11 : decode cX4_weight 11 = .ok (.ireturn, 1) := by decide +kernel
set_option maxRecDepth 20000 in
theorem ggX4_spread_X4_requireRounds : GoodIn wsX4_spread wsX4_requireRounds := goodIn_ca (goodIn_r _ [4, 5, 6, 3, 7, 8, 9] (by decide +kernel) (by decide +kernel)) (goodIn_sub (fun _ h => List.mem_cons_of_mem _ (List.mem_append_right _ h)) (by decide +kernel))
set_option maxRecDepth 20000 in
theorem gX4_spread_X4_requireRounds : GoodIn wsX4_spread (va_wsS RX4 158 yX4_requireRounds wsX4_requireRounds) := goodIn_app (goodIn_of _ (by decide +kernel)) ggX4_spread_X4_requireRounds
set_option maxRecDepth 20000 in
theorem ggX4_spread_X4_drawNet : GoodIn wsX4_spread wsX4_drawNet := goodIn_r _ [13, 14, 15, 16, 17, 18, 19, 20, 21, 22, 23, 24, 25, 26, 27, 3, 28, 29, 30, 31, 32, 33, 34, 35, 36, 37, 38, 39, 40, 41, 42, 43, 44, 45, 46, 47, 48, 49, 71, 72, 73, 74, 75, 76, 77, 78, 79, 80, 81, 82, 83, 84, 85, 86, 87, 88, 89] (by decide +kernel) (by decide +kernel)
set_option maxRecDepth 20000 in
theorem gX4_spread_X4_drawNet : GoodIn wsX4_spread (wsV RX4 125 RX4 yX4_drawNet wsX4_drawNet) := goodIn_app (goodIn_of _ (by decide +kernel)) ggX4_spread_X4_drawNet
set_option maxRecDepth 20000 in
theorem ggX4_spread_X4_handHalves : GoodIn wsX4_spread wsX4_handHalves := goodIn_r _ [53, 54, 55, 15, 56, 57, 58, 59, 22, 23, 24, 60, 61, 62, 3, 63, 14, 32, 17, 33, 34, 20, 35, 36, 37, 64, 65, 66, 67, 68, 69, 70, 71, 72, 73, 74, 75, 76, 77, 78, 79, 80, 81, 82, 83, 84, 85, 86, 87, 88, 89] (by decide +kernel) (by decide +kernel)
set_option maxRecDepth 20000 in
theorem gX4_spread_X4_handHalves : GoodIn wsX4_spread (wsV RX4 167 RX4 yX4_handHalves wsX4_handHalves) := goodIn_app (goodIn_of _ (by decide +kernel)) ggX4_spread_X4_handHalves
theorem dX4_spread_0 : decode cX4_spread 0 = .ok (.iload_n 1, 1) := by decide +kernel
theorem dX4_spread_1 : decode cX4_spread 1 = .ok (.invokestatic 158, 3) := by decide +kernel
theorem dX4_spread_4 : decode cX4_spread 4 = .ok (.aload_n 0, 1) := by decide +kernel
theorem dX4_spread_5 : decode cX4_spread 5 = .ok (.invokevirtual 125, 3) := by decide +kernel
theorem dX4_spread_8 : decode cX4_spread 8 = .ok (.iconst 0, 1) := by decide +kernel
theorem dX4_spread_9 : decode cX4_spread 9 = .ok (.istore_n 2, 1) := by decide +kernel
theorem dX4_spread_10 : decode cX4_spread 10 = .ok (.iconst 0, 1) := by decide +kernel
theorem dX4_spread_11 : decode cX4_spread 11 = .ok (.istore_n 3, 1) := by decide +kernel
theorem dX4_spread_12 : decode cX4_spread 12 = .ok (.iload_n 3, 1) := by decide +kernel
theorem dX4_spread_13 : decode cX4_spread 13 = .ok (.iload_n 1, 1) := by decide +kernel
theorem dX4_spread_14 : decode cX4_spread 14 = .ok (.if_icmp .ge 16, 3) := by decide +kernel
theorem dX4_spread_17 : decode cX4_spread 17 = .ok (.iload_n 2, 1) := by decide +kernel
theorem dX4_spread_18 : decode cX4_spread 18 = .ok (.aload_n 0, 1) := by decide +kernel
theorem dX4_spread_19 : decode cX4_spread 19 = .ok (.invokevirtual 167, 3) := by decide +kernel
theorem dX4_spread_22 : decode cX4_spread 22 = .ok (.iadd, 1) := by decide +kernel
theorem dX4_spread_23 : decode cX4_spread 23 = .ok (.istore_n 2, 1) := by decide +kernel
theorem dX4_spread_24 : decode cX4_spread 24 = .ok (.iinc 3 1, 3) := by decide +kernel
theorem dX4_spread_27 : decode cX4_spread 27 = .ok (.goto (-15), 3) := by decide +kernel
theorem dX4_spread_30 : decode cX4_spread 30 = .ok (.iload_n 2, 1) := by decide +kernel
theorem dX4_spread_31 : decode cX4_spread 31 = .ok (.ireturn, 1) := by decide +kernel
set_option maxRecDepth 20000 in
theorem ggX4_want_X4_requireUnlike : GoodIn wsX4_want wsX4_requireUnlike := goodIn_ca (goodIn_ca (goodIn_r _ [7, 8, 9, 10, 11, 12, 6, 13, 14, 15, 16, 20, 21, 22, 23, 24, 25, 26, 27, 28, 29, 30, 31, 32, 33, 34, 35, 36, 37] (by decide +kernel) (by decide +kernel)) (goodIn_sub (fun _ h => List.mem_cons_of_mem _ (List.mem_append_left _ (List.mem_append_right _ h))) (by decide +kernel))) (goodIn_sub (fun _ h => List.mem_cons_of_mem _ (List.mem_append_right _ h)) (by decide +kernel))
set_option maxRecDepth 20000 in
theorem gX4_want_X4_requireUnlike : GoodIn wsX4_want (wsV RX4 109 RX4 yX4_requireUnlike wsX4_requireUnlike) := goodIn_app (goodIn_of _ (by decide +kernel)) ggX4_want_X4_requireUnlike
set_option maxRecDepth 20000 in
theorem ggX4_want_X4_requireWithin : GoodIn wsX4_want wsX4_requireWithin := goodIn_ca (goodIn_r _ [19, 8, 9] (by decide +kernel) (by decide +kernel)) (goodIn_sub (fun _ h => List.mem_cons_of_mem _ (List.mem_append_left _ (List.mem_append_right _ h))) (by decide +kernel))
set_option maxRecDepth 20000 in
theorem gX4_want_X4_requireWithin : GoodIn wsX4_want (va_wsS RX4 105 yX4_requireWithin wsX4_requireWithin) := goodIn_app (goodIn_of _ (by decide +kernel)) ggX4_want_X4_requireWithin
theorem dX4_want_0 : decode cX4_want 0 = .ok (.aload_n 0, 1) := by decide +kernel
theorem dX4_want_1 : decode cX4_want 1 = .ok (.iload_n 1, 1) := by decide +kernel
theorem dX4_want_2 : decode cX4_want 2 = .ok (.iload_n 2, 1) := by decide +kernel
theorem dX4_want_3 : decode cX4_want 3 = .ok (.invokevirtual 109, 3) := by decide +kernel
theorem dX4_want_6 : decode cX4_want 6 = .ok (.iload_n 3, 1) := by decide +kernel
theorem dX4_want_7 : decode cX4_want 7 = .ok (.iconst (-1), 1) := by decide +kernel
theorem dX4_want_8 : decode cX4_want 8 = .ok (.if_icmp .eq 10, 3) := by decide +kernel
theorem dX4_want_11 : decode cX4_want 11 = .ok (.iload_n 3, 1) := by decide +kernel
theorem dX4_want_12 : decode cX4_want 12 = .ok (.iconst 1, 1) := by decide +kernel
theorem dX4_want_13 : decode cX4_want 13 = .ok (.ldc 170, 2) := by decide +kernel
theorem dX4_want_15 : decode cX4_want 15 = .ok (.invokestatic 105, 3) := by decide +kernel
theorem dX4_want_18 : decode cX4_want 18 = .ok (.aload_n 0, 1) := by decide +kernel
theorem dX4_want_19 : decode cX4_want 19 = .ok (.getfield 37, 3) := by decide +kernel
theorem dX4_want_22 : decode cX4_want 22 = .ok (.iload_n 1, 1) := by decide +kernel
theorem dX4_want_23 : decode cX4_want 23 = .ok (.aaload, 1) := by decide +kernel
theorem dX4_want_24 : decode cX4_want 24 = .ok (.iload_n 2, 1) := by decide +kernel
theorem dX4_want_25 : decode cX4_want 25 = .ok (.iaload, 1) := by decide +kernel
theorem dX4_want_26 : decode cX4_want 26 = .ok (.istore 4, 2) := by decide +kernel
theorem dX4_want_28 : decode cX4_want 28 = .ok (.aload_n 0, 1) := by decide +kernel
theorem dX4_want_29 : decode cX4_want 29 = .ok (.getfield 37, 3) := by decide +kernel
theorem dX4_want_32 : decode cX4_want 32 = .ok (.iload_n 1, 1) := by decide +kernel
theorem dX4_want_33 : decode cX4_want 33 = .ok (.aaload, 1) := by decide +kernel
theorem dX4_want_34 : decode cX4_want 34 = .ok (.iload_n 2, 1) := by decide +kernel
theorem dX4_want_35 : decode cX4_want 35 = .ok (.iload_n 3, 1) := by decide +kernel
theorem dX4_want_36 : decode cX4_want 36 = .ok (.iastore, 1) := by decide +kernel
theorem dX4_want_37 : decode cX4_want 37 = .ok (.aload_n 0, 1) := by decide +kernel
theorem dX4_want_38 : decode cX4_want 38 = .ok (.getfield 37, 3) := by decide +kernel
theorem dX4_want_41 : decode cX4_want 41 = .ok (.iload_n 2, 1) := by decide +kernel
theorem dX4_want_42 : decode cX4_want 42 = .ok (.aaload, 1) := by decide +kernel
theorem dX4_want_43 : decode cX4_want 43 = .ok (.iload_n 1, 1) := by decide +kernel
theorem dX4_want_44 : decode cX4_want 44 = .ok (.iload_n 3, 1) := by decide +kernel
theorem dX4_want_45 : decode cX4_want 45 = .ok (.iastore, 1) := by decide +kernel
theorem dX4_want_46 : decode cX4_want 46 = .ok (.iload 4, 2) := by decide +kernel
theorem dX4_want_48 : decode cX4_want 48 = .ok (.ireturn, 1) := by decide +kernel
set_option maxRecDepth 20000 in
theorem ggX4_error_X4_drawNet : GoodIn wsX4_error wsX4_drawNet := goodIn_r _ [10, 11, 1, 12, 13, 14, 15, 16, 17, 18, 19, 20, 21, 22, 23, 9, 24, 25, 26, 27, 28, 29, 30, 31, 32, 33, 34, 35, 36, 37, 38, 39, 40, 41, 42, 43, 44, 45, 51, 52, 53, 54, 55, 56, 57, 58, 59, 60, 61, 62, 63, 64, 65, 66, 67, 68, 69] (by decide +kernel) (by decide +kernel)
set_option maxRecDepth 20000 in
theorem gX4_error_X4_drawNet : GoodIn wsX4_error (wsV RX4 125 RX4 yX4_drawNet wsX4_drawNet) := goodIn_app (goodIn_of _ (by decide +kernel)) ggX4_error_X4_drawNet
set_option maxRecDepth 20000 in
theorem ggX4_error_X4_excessOf : GoodIn wsX4_error wsX4_excessOf := goodIn_r _ [49, 11, 50, 28, 13, 29, 30, 16, 31, 32, 33, 34, 35, 36, 9, 37, 38, 39, 51, 52, 53, 54, 55, 56, 57, 58, 59, 60, 61, 62, 63, 64, 65, 66, 67, 68, 69] (by decide +kernel) (by decide +kernel)
set_option maxRecDepth 20000 in
theorem gX4_error_X4_excessOf : GoodIn wsX4_error (wsV RX4 171 RX4 yX4_excessOf wsX4_excessOf) := goodIn_app (goodIn_of _ (by decide +kernel)) ggX4_error_X4_excessOf
theorem dX4_error_0 : decode cX4_error 0 = .ok (.aload_n 0, 1) := by decide +kernel
theorem dX4_error_1 : decode cX4_error 1 = .ok (.invokevirtual 125, 3) := by decide +kernel
theorem dX4_error_4 : decode cX4_error 4 = .ok (.iconst 0, 1) := by decide +kernel
theorem dX4_error_5 : decode cX4_error 5 = .ok (.istore_n 1, 1) := by decide +kernel
theorem dX4_error_6 : decode cX4_error 6 = .ok (.iconst 0, 1) := by decide +kernel
theorem dX4_error_7 : decode cX4_error 7 = .ok (.istore_n 2, 1) := by decide +kernel
theorem dX4_error_8 : decode cX4_error 8 = .ok (.iload_n 2, 1) := by decide +kernel
theorem dX4_error_9 : decode cX4_error 9 = .ok (.aload_n 0, 1) := by decide +kernel
theorem dX4_error_10 : decode cX4_error 10 = .ok (.getfield 47, 3) := by decide +kernel
theorem dX4_error_13 : decode cX4_error 13 = .ok (.if_icmp .ge 34, 3) := by decide +kernel
theorem dX4_error_16 : decode cX4_error 16 = .ok (.iconst 0, 1) := by decide +kernel
theorem dX4_error_17 : decode cX4_error 17 = .ok (.istore_n 3, 1) := by decide +kernel
theorem dX4_error_18 : decode cX4_error 18 = .ok (.iload_n 3, 1) := by decide +kernel
theorem dX4_error_19 : decode cX4_error 19 = .ok (.iload_n 2, 1) := by decide +kernel
theorem dX4_error_20 : decode cX4_error 20 = .ok (.if_icmp .ge 21, 3) := by decide +kernel
theorem dX4_error_23 : decode cX4_error 23 = .ok (.iload_n 1, 1) := by decide +kernel
theorem dX4_error_24 : decode cX4_error 24 = .ok (.aload_n 0, 1) := by decide +kernel
theorem dX4_error_25 : decode cX4_error 25 = .ok (.iload_n 2, 1) := by decide +kernel
theorem dX4_error_26 : decode cX4_error 26 = .ok (.iload_n 3, 1) := by decide +kernel
theorem dX4_error_27 : decode cX4_error 27 = .ok (.invokevirtual 171, 3) := by decide +kernel
theorem dX4_error_30 : decode cX4_error 30 = .ok (.invokestatic 175, 3) := by decide +kernel
theorem dX4_error_33 : decode cX4_error 33 = .ok (.iadd, 1) := by decide +kernel
theorem dX4_error_34 : decode cX4_error 34 = .ok (.istore_n 1, 1) := by decide +kernel
theorem dX4_error_35 : decode cX4_error 35 = .ok (.iinc 3 1, 3) := by decide +kernel
theorem dX4_error_38 : decode cX4_error 38 = .ok (.goto (-20), 3) := by decide +kernel
theorem dX4_error_41 : decode cX4_error 41 = .ok (.iinc 2 1, 3) := by decide +kernel
theorem dX4_error_44 : decode cX4_error 44 = .ok (.goto (-36), 3) := by decide +kernel
theorem dX4_error_47 : decode cX4_error 47 = .ok (.iload_n 1, 1) := by decide +kernel
theorem dX4_error_48 : decode cX4_error 48 = .ok (.ireturn, 1) := by decide +kernel
set_option maxRecDepth 20000 in
theorem ggX4_settle_X4_requireRounds : GoodIn wsX4_settle wsX4_requireRounds := goodIn_ca (goodIn_r _ [4, 5, 6, 3, 7, 8, 9] (by decide +kernel) (by decide +kernel)) (goodIn_sub (fun _ h => List.mem_cons_of_mem _ (List.mem_append_right _ h)) (by decide +kernel))
set_option maxRecDepth 20000 in
theorem gX4_settle_X4_requireRounds : GoodIn wsX4_settle (va_wsS RX4 158 yX4_requireRounds wsX4_requireRounds) := goodIn_app (goodIn_of _ (by decide +kernel)) ggX4_settle_X4_requireRounds
set_option maxRecDepth 20000 in
theorem ggX4_settle_X4_stepTogether : GoodIn wsX4_settle wsX4_stepTogether := goodIn_r _ [13, 14, 15, 16, 17, 18, 19, 20, 21, 3, 22, 23, 24, 25, 26, 27, 28, 29, 30, 31, 32, 33, 34, 35, 36, 37, 38, 39, 40, 41, 42, 43, 44, 45, 46, 47, 48, 49, 50, 51, 52, 53, 54, 55, 56, 57, 58, 59, 60, 61, 62, 63, 64, 65, 66, 67, 68, 69, 70, 71, 72, 73, 74, 75, 76, 77, 78, 79, 80, 81, 82, 83, 91, 92, 93, 94, 95, 96, 97, 98, 99, 100, 101, 102, 103, 104, 105, 106, 107, 108, 109] (by decide +kernel) (by decide +kernel)
set_option maxRecDepth 20000 in
theorem gX4_settle_X4_stepTogether : GoodIn wsX4_settle (wsV RX4 180 RX4 yX4_stepTogether wsX4_stepTogether) := goodIn_app (goodIn_of _ (by decide +kernel)) ggX4_settle_X4_stepTogether
set_option maxRecDepth 20000 in
theorem ggX4_settle_X4_error : GoodIn wsX4_settle wsX4_error := goodIn_r _ [87, 14, 88, 89, 65, 90, 19, 20, 21, 3, 22, 23, 24, 25, 26, 27, 28, 29, 30, 31, 32, 33, 34, 35, 36, 37, 38, 39, 40, 41, 42, 43, 44, 45, 46, 47, 48, 49, 16, 18, 50, 51, 52, 53, 54, 55, 70, 71, 72, 73, 74, 91, 92, 93, 94, 95, 96, 97, 98, 99, 100, 101, 102, 103, 104, 105, 106, 107, 108, 109] (by decide +kernel) (by decide +kernel)
set_option maxRecDepth 20000 in
theorem gX4_settle_X4_error : GoodIn wsX4_settle (wsV RX4 183 RX4 yX4_error wsX4_error) := goodIn_app (goodIn_of _ (by decide +kernel)) ggX4_settle_X4_error
theorem dX4_settle_0 : decode cX4_settle 0 = .ok (.iload_n 1, 1) := by decide +kernel
theorem dX4_settle_1 : decode cX4_settle 1 = .ok (.invokestatic 158, 3) := by decide +kernel
theorem dX4_settle_4 : decode cX4_settle 4 = .ok (.iconst 0, 1) := by decide +kernel
theorem dX4_settle_5 : decode cX4_settle 5 = .ok (.istore_n 2, 1) := by decide +kernel
theorem dX4_settle_6 : decode cX4_settle 6 = .ok (.iload_n 2, 1) := by decide +kernel
theorem dX4_settle_7 : decode cX4_settle 7 = .ok (.iload_n 1, 1) := by decide +kernel
theorem dX4_settle_8 : decode cX4_settle 8 = .ok (.if_icmp .ge 13, 3) := by decide +kernel
theorem dX4_settle_11 : decode cX4_settle 11 = .ok (.aload_n 0, 1) := by decide +kernel
theorem dX4_settle_12 : decode cX4_settle 12 = .ok (.invokevirtual 180, 3) := by decide +kernel
theorem dX4_settle_15 : decode cX4_settle 15 = .ok (.iinc 2 1, 3) := by decide +kernel
theorem dX4_settle_18 : decode cX4_settle 18 = .ok (.goto (-12), 3) := by decide +kernel
theorem dX4_settle_21 : decode cX4_settle 21 = .ok (.aload_n 0, 1) := by decide +kernel
theorem dX4_settle_22 : decode cX4_settle 22 = .ok (.invokevirtual 183, 3) := by decide +kernel
theorem dX4_settle_25 : decode cX4_settle 25 = .ok (.ireturn, 1) := by decide +kernel
set_option maxRecDepth 20000 in
theorem ggX4_rank_X4_drawNet : GoodIn wsX4_rank wsX4_drawNet := goodIn_r _ [7, 2, 8, 9, 10, 11, 12, 13, 14, 15, 16, 17, 18, 19, 20, 6, 21, 22, 23, 24, 25, 26, 27, 28, 29, 30, 31, 32, 33, 34, 35, 36, 37, 38, 39, 40, 41, 42, 77, 78, 79, 80, 81, 82, 83, 84, 85, 86, 87, 88, 89, 90, 91, 92, 93, 94, 95] (by decide +kernel) (by decide +kernel)
set_option maxRecDepth 20000 in
theorem gX4_rank_X4_drawNet : GoodIn wsX4_rank (wsV RX4 125 RX4 yX4_drawNet wsX4_drawNet) := goodIn_app (goodIn_of _ (by decide +kernel)) ggX4_rank_X4_drawNet
set_option maxRecDepth 20000 in
theorem ggX4_rank_X2_rankOf : GoodIn wsX4_rank wsX2_rankOf := goodIn_r _ [46, 47, 48, 49, 15, 16, 17, 25, 10, 26, 27, 13, 28, 29, 30, 50, 51, 52, 44, 53, 54, 55, 56, 57, 58, 59, 60, 61, 62, 41, 42, 63, 64, 65, 66, 67, 68, 69, 70, 71, 72, 73, 74, 75, 76, 96, 97, 98, 95] (by decide +kernel) (by decide +kernel)
set_option maxRecDepth 20000 in
theorem gX4_rank_X2_rankOf_n186 : GoodIn wsX4_rank (wsX2_rankOf) := ggX4_rank_X2_rankOf
theorem dX4_rank_0 : decode cX4_rank 0 = .ok (.aload_n 0, 1) := by decide +kernel
theorem dX4_rank_1 : decode cX4_rank 1 = .ok (.invokevirtual 125, 3) := by decide +kernel
theorem dX4_rank_4 : decode cX4_rank 4 = .ok (.aload_n 0, 1) := by decide +kernel
theorem dX4_rank_5 : decode cX4_rank 5 = .ok (.getfield 66, 3) := by decide +kernel
theorem dX4_rank_8 : decode cX4_rank 8 = .ok (.aload_n 0, 1) := by decide +kernel
theorem dX4_rank_9 : decode cX4_rank 9 = .ok (.getfield 54, 3) := by decide +kernel
theorem dX4_rank_12 : decode cX4_rank 12 = .ok (.invokevirtual 186, 3) := by decide +kernel
theorem dX4_rank_15 : decode cX4_rank 15 = .ok (.ireturn, 1) := by decide +kernel
set_option maxRecDepth 20000 in
theorem ggX4_rankByCounting_X4_drawNet : GoodIn wsX4_rankByCounting wsX4_drawNet := goodIn_r _ [7, 2, 8, 9, 10, 11, 12, 13, 14, 15, 16, 17, 18, 19, 20, 6, 21, 22, 23, 24, 25, 26, 27, 28, 29, 30, 31, 32, 33, 34, 35, 36, 37, 38, 39, 40, 41, 42, 64, 65, 66, 67, 68, 69, 70, 71, 72, 73, 74, 75, 76, 77, 78, 79, 80, 81, 82] (by decide +kernel) (by decide +kernel)
set_option maxRecDepth 20000 in
theorem gX4_rankByCounting_X4_drawNet : GoodIn wsX4_rankByCounting (wsV RX4 125 RX4 yX4_drawNet wsX4_drawNet) := goodIn_app (goodIn_of _ (by decide +kernel)) ggX4_rankByCounting_X4_drawNet
set_option maxRecDepth 20000 in
theorem ggX4_rankByCounting_X0_rankOf : GoodIn wsX4_rankByCounting wsX0_rankOf := goodIn_r _ [46, 47, 48, 15, 16, 17, 41, 10, 42, 25, 26, 27, 13, 28, 29, 30, 49, 50, 51, 44, 52, 53, 54, 55, 56, 57, 58, 59, 60, 61, 62, 63, 83, 82] (by decide +kernel) (by decide +kernel)
set_option maxRecDepth 20000 in
theorem gX4_rankByCounting_X0_rankOf_n190 : GoodIn wsX4_rankByCounting (wsX0_rankOf) := ggX4_rankByCounting_X0_rankOf
theorem dX4_rankByCounting_0 : decode cX4_rankByCounting 0 = .ok (.aload_n 0, 1) := by decide +kernel
theorem dX4_rankByCounting_1 : decode cX4_rankByCounting 1 = .ok (.invokevirtual 125, 3) := by decide +kernel
theorem dX4_rankByCounting_4 : decode cX4_rankByCounting 4 = .ok (.aload_n 0, 1) := by decide +kernel
theorem dX4_rankByCounting_5 : decode cX4_rankByCounting 5 = .ok (.getfield 73, 3) := by decide +kernel
theorem dX4_rankByCounting_8 : decode cX4_rankByCounting 8 = .ok (.aload_n 0, 1) := by decide +kernel
theorem dX4_rankByCounting_9 : decode cX4_rankByCounting 9 = .ok (.getfield 54, 3) := by decide +kernel
theorem dX4_rankByCounting_12 : decode cX4_rankByCounting 12 = .ok (.invokevirtual 190, 3) := by decide +kernel
theorem dX4_rankByCounting_15 : decode cX4_rankByCounting 15 = .ok (.ireturn, 1) := by decide +kernel
set_option maxRecDepth 20000 in
theorem ggX4_isRigid_X4_drawNet : GoodIn wsX4_isRigid wsX4_drawNet := goodIn_r _ [7, 2, 8, 9, 10, 11, 12, 13, 14, 15, 16, 17, 18, 19, 20, 6, 21, 22, 23, 24, 25, 26, 27, 28, 29, 30, 31, 32, 33, 34, 35, 36, 37, 38, 39, 40, 41, 42, 95, 96, 97, 98, 99, 100, 101, 102, 103, 104, 105, 106, 107, 108, 109, 110, 111, 112, 113] (by decide +kernel) (by decide +kernel)
set_option maxRecDepth 20000 in
theorem gX4_isRigid_X4_drawNet : GoodIn wsX4_isRigid (wsV RX4 125 RX4 yX4_drawNet wsX4_drawNet) := goodIn_app (goodIn_of _ (by decide +kernel)) ggX4_isRigid_X4_drawNet
set_option maxRecDepth 20000 in
theorem ggX4_isRigid_X4_upSet : GoodIn wsX4_isRigid wsX4_upSet := goodIn_r _ [46, 8, 22, 41, 10, 42, 95, 96, 97, 98, 99, 100, 101, 102, 103, 104, 105, 106, 107, 108, 109, 110, 111, 112] (by decide +kernel) (by decide +kernel)
set_option maxRecDepth 20000 in
theorem gX4_isRigid_X4_upSet : GoodIn wsX4_isRigid (wsV RX4 148 RX4 yX4_upSet wsX4_upSet) := goodIn_app (goodIn_of _ (by decide +kernel)) ggX4_isRigid_X4_upSet
set_option maxRecDepth 20000 in
theorem ggX4_isRigid_J6_bitCount_0f7a4 : GoodIn wsX4_isRigid wsJ6_bitCount_0f7a4 := goodIn_r _ [50, 51, 52, 53] (by decide +kernel) (by decide +kernel)
set_option maxRecDepth 20000 in
theorem gX4_isRigid_J6_bitCount_0f7a4 : GoodIn wsX4_isRigid (va_wsS RX4 191 yJ6_bitCount_0f7a4 wsJ6_bitCount_0f7a4) := goodIn_app (goodIn_of _ (by decide +kernel)) ggX4_isRigid_J6_bitCount_0f7a4
set_option maxRecDepth 20000 in
theorem ggX4_isRigid_X4_countGroups : GoodIn wsX4_isRigid wsX4_countGroups := goodIn_r _ [57, 8, 22, 2, 29, 10, 30, 58, 59, 60, 13, 40, 41, 42, 28, 95, 96, 97, 98, 99, 100, 101, 102, 103, 104, 105, 106, 107, 108, 109, 110, 111, 112, 113] (by decide +kernel) (by decide +kernel)
set_option maxRecDepth 20000 in
theorem gX4_isRigid_X4_countGroups : GoodIn wsX4_isRigid (wsV RX4 136 RX4 yX4_countGroups wsX4_countGroups) := goodIn_app (goodIn_of _ (by decide +kernel)) ggX4_isRigid_X4_countGroups
set_option maxRecDepth 20000 in
theorem ggX4_isRigid_X2_rankOf : GoodIn wsX4_isRigid wsX2_rankOf := goodIn_r _ [64, 65, 66, 67, 15, 16, 17, 25, 10, 26, 27, 13, 28, 29, 30, 68, 69, 70, 62, 71, 72, 73, 74, 75, 76, 77, 78, 79, 80, 41, 42, 81, 82, 83, 84, 85, 86, 87, 88, 89, 90, 91, 92, 93, 94, 114, 115, 116, 113] (by decide +kernel) (by decide +kernel)
set_option maxRecDepth 20000 in
theorem gX4_isRigid_X2_rankOf_n186 : GoodIn wsX4_isRigid (wsX2_rankOf) := ggX4_isRigid_X2_rankOf
theorem dX4_isRigid_0 : decode cX4_isRigid 0 = .ok (.aload_n 0, 1) := by decide +kernel
theorem dX4_isRigid_1 : decode cX4_isRigid 1 = .ok (.invokevirtual 125, 3) := by decide +kernel
theorem dX4_isRigid_4 : decode cX4_isRigid 4 = .ok (.aload_n 0, 1) := by decide +kernel
theorem dX4_isRigid_5 : decode cX4_isRigid 5 = .ok (.invokevirtual 148, 3) := by decide +kernel
theorem dX4_isRigid_8 : decode cX4_isRigid 8 = .ok (.invokestatic 191, 3) := by decide +kernel
theorem dX4_isRigid_11 : decode cX4_isRigid 11 = .ok (.istore_n 1, 1) := by decide +kernel
theorem dX4_isRigid_12 : decode cX4_isRigid 12 = .ok (.iload_n 1, 1) := by decide +kernel
theorem dX4_isRigid_13 : decode cX4_isRigid 13 = .ok (.iconst 2, 1) := by decide +kernel
theorem dX4_isRigid_14 : decode cX4_isRigid 14 = .ok (.if_icmp .lt 34, 3) := by decide +kernel
theorem dX4_isRigid_17 : decode cX4_isRigid 17 = .ok (.aload_n 0, 1) := by decide +kernel
theorem dX4_isRigid_18 : decode cX4_isRigid 18 = .ok (.invokevirtual 136, 3) := by decide +kernel
theorem dX4_isRigid_21 : decode cX4_isRigid 21 = .ok (.iconst 1, 1) := by decide +kernel
theorem dX4_isRigid_22 : decode cX4_isRigid 22 = .ok (.if_icmp .ne 26, 3) := by decide +kernel
theorem dX4_isRigid_25 : decode cX4_isRigid 25 = .ok (.aload_n 0, 1) := by decide +kernel
theorem dX4_isRigid_26 : decode cX4_isRigid 26 = .ok (.getfield 66, 3) := by decide +kernel
theorem dX4_isRigid_29 : decode cX4_isRigid 29 = .ok (.aload_n 0, 1) := by decide +kernel
theorem dX4_isRigid_30 : decode cX4_isRigid 30 = .ok (.getfield 54, 3) := by decide +kernel
theorem dX4_isRigid_33 : decode cX4_isRigid 33 = .ok (.invokevirtual 186, 3) := by decide +kernel
theorem dX4_isRigid_36 : decode cX4_isRigid 36 = .ok (.iconst 2, 1) := by decide +kernel
theorem dX4_isRigid_37 : decode cX4_isRigid 37 = .ok (.iload_n 1, 1) := by decide +kernel
theorem dX4_isRigid_38 : decode cX4_isRigid 38 = .ok (.imul, 1) := by decide +kernel
theorem dX4_isRigid_39 : decode cX4_isRigid 39 = .ok (.iconst 3, 1) := by decide +kernel
theorem dX4_isRigid_40 : decode cX4_isRigid 40 = .ok (.isub, 1) := by decide +kernel
theorem dX4_isRigid_41 : decode cX4_isRigid 41 = .ok (.if_icmp .ne 7, 3) := by decide +kernel
theorem dX4_isRigid_44 : decode cX4_isRigid 44 = .ok (.iconst 1, 1) := by decide +kernel
theorem dX4_isRigid_45 : decode cX4_isRigid 45 = .ok (.goto 4, 3) := by decide +kernel
theorem dX4_isRigid_48 : decode cX4_isRigid 48 = .ok (.iconst 0, 1) := by decide +kernel
theorem dX4_isRigid_49 : decode cX4_isRigid 49 = .ok (.ireturn, 1) := by decide +kernel
set_option maxRecDepth 20000 in
theorem ggX4_isSpare_X4_requireMember : GoodIn wsX4_isSpare wsX4_requireMember := goodIn_ca (goodIn_r _ [9, 10, 11, 12, 89, 90, 91, 92, 93, 94, 95, 96, 97, 98, 99, 100, 101, 102, 103, 104, 105, 106] (by decide +kernel) (by decide +kernel)) (goodIn_sub (fun _ h => List.mem_cons_of_mem _ (List.mem_append_right _ h)) (by decide +kernel))
set_option maxRecDepth 20000 in
theorem gX4_isSpare_X4_requireMember : GoodIn wsX4_isSpare (wsV RX4 101 RX4 yX4_requireMember wsX4_requireMember) := goodIn_app (goodIn_of _ (by decide +kernel)) ggX4_isSpare_X4_requireMember
set_option maxRecDepth 20000 in
theorem ggX4_isSpare_X4_hears : GoodIn wsX4_isSpare wsX4_hears := goodIn_r _ [16, 17, 18, 19, 20, 21, 22, 23, 24, 25, 26, 27, 28, 29, 30, 8, 31, 32, 33, 89, 90, 91, 92, 93, 94, 95, 96, 97, 98, 99, 100, 101, 102, 103, 104, 105, 106, 107] (by decide +kernel) (by decide +kernel)
set_option maxRecDepth 20000 in
theorem gX4_isSpare_X4_hears : GoodIn wsX4_isSpare (wsV RX4 122 RX4 yX4_hears wsX4_hears) := goodIn_app (goodIn_of _ (by decide +kernel)) ggX4_isSpare_X4_hears
set_option maxRecDepth 20000 in
theorem ggX4_isSpare_X4_drawNet : GoodIn wsX4_isSpare wsX4_drawNet := goodIn_r _ [37, 4, 12, 38, 21, 39, 40, 24, 41, 42, 43, 44, 13, 14, 15, 8, 16, 17, 18, 19, 20, 22, 23, 25, 26, 27, 28, 29, 30, 31, 32, 33, 45, 46, 47, 48, 49, 50, 89, 90, 91, 92, 93, 94, 95, 96, 97, 98, 99, 100, 101, 102, 103, 104, 105, 106, 107] (by decide +kernel) (by decide +kernel)
set_option maxRecDepth 20000 in
theorem gX4_isSpare_X4_drawNet : GoodIn wsX4_isSpare (wsV RX4 125 RX4 yX4_drawNet wsX4_drawNet) := goodIn_app (goodIn_of _ (by decide +kernel)) ggX4_isSpare_X4_drawNet
set_option maxRecDepth 20000 in
theorem ggX4_isSpare_X2_rankOf : GoodIn wsX4_isSpare wsX2_rankOf := goodIn_r _ [54, 55, 56, 57, 42, 43, 44, 20, 21, 22, 23, 24, 25, 26, 27, 58, 59, 60, 52, 61, 62, 63, 64, 65, 66, 67, 68, 69, 70, 49, 50, 71, 72, 73, 74, 75, 76, 77, 78, 79, 80, 81, 82, 83, 84, 108, 109, 110, 107] (by decide +kernel) (by decide +kernel)
set_option maxRecDepth 20000 in
theorem gX4_isSpare_X2_rankOf_n186 : GoodIn wsX4_isSpare (wsX2_rankOf) := ggX4_isSpare_X2_rankOf
set_option maxRecDepth 20000 in
theorem ggX4_isSpare_X1_cut : GoodIn wsX4_isSpare wsX1_cut := goodIn_r _ [87, 24, 88, 83, 21, 84, 107] (by decide +kernel) (by decide +kernel)
set_option maxRecDepth 20000 in
theorem gX4_isSpare_X1_cut_n116 : GoodIn wsX4_isSpare (wsX1_cut) := ggX4_isSpare_X1_cut
theorem dX4_isSpare_0 : decode cX4_isSpare 0 = .ok (.aload_n 0, 1) := by decide +kernel
theorem dX4_isSpare_1 : decode cX4_isSpare 1 = .ok (.iload_n 1, 1) := by decide +kernel
theorem dX4_isSpare_2 : decode cX4_isSpare 2 = .ok (.invokevirtual 101, 3) := by decide +kernel
theorem dX4_isSpare_5 : decode cX4_isSpare 5 = .ok (.aload_n 0, 1) := by decide +kernel
theorem dX4_isSpare_6 : decode cX4_isSpare 6 = .ok (.iload_n 2, 1) := by decide +kernel
theorem dX4_isSpare_7 : decode cX4_isSpare 7 = .ok (.invokevirtual 101, 3) := by decide +kernel
theorem dX4_isSpare_10 : decode cX4_isSpare 10 = .ok (.aload_n 0, 1) := by decide +kernel
theorem dX4_isSpare_11 : decode cX4_isSpare 11 = .ok (.iload_n 1, 1) := by decide +kernel
theorem dX4_isSpare_12 : decode cX4_isSpare 12 = .ok (.iload_n 2, 1) := by decide +kernel
theorem dX4_isSpare_13 : decode cX4_isSpare 13 = .ok (.invokevirtual 122, 3) := by decide +kernel
theorem dX4_isSpare_16 : decode cX4_isSpare 16 = .ok (.ifCond .ne 13, 3) := by decide +kernel
theorem dX4_isSpare_19 : decode cX4_isSpare 19 = .ok (.new 196, 3) := by decide +kernel
theorem dX4_isSpare_22 : decode cX4_isSpare 22 = .ok (.dup, 1) := by decide +kernel
theorem dX4_isSpare_23 : decode cX4_isSpare 23 = .ok (.ldc 198, 2) := by decide +kernel
theorem dX4_isSpare_25 : decode cX4_isSpare 25 = .ok (.invokespecial 200, 3) := by decide +kernel
theorem dX4_isSpare_28 : decode cX4_isSpare 28 = .ok (.athrow, 1) := by decide +kernel
theorem dX4_isSpare_29 : decode cX4_isSpare 29 = .ok (.aload_n 0, 1) := by decide +kernel
theorem dX4_isSpare_30 : decode cX4_isSpare 30 = .ok (.invokevirtual 125, 3) := by decide +kernel
theorem dX4_isSpare_33 : decode cX4_isSpare 33 = .ok (.aload_n 0, 1) := by decide +kernel
theorem dX4_isSpare_34 : decode cX4_isSpare 34 = .ok (.getfield 66, 3) := by decide +kernel
theorem dX4_isSpare_37 : decode cX4_isSpare 37 = .ok (.aload_n 0, 1) := by decide +kernel
theorem dX4_isSpare_38 : decode cX4_isSpare 38 = .ok (.getfield 54, 3) := by decide +kernel
theorem dX4_isSpare_41 : decode cX4_isSpare 41 = .ok (.invokevirtual 186, 3) := by decide +kernel
theorem dX4_isSpare_44 : decode cX4_isSpare 44 = .ok (.istore_n 3, 1) := by decide +kernel
theorem dX4_isSpare_45 : decode cX4_isSpare 45 = .ok (.aload_n 0, 1) := by decide +kernel
theorem dX4_isSpare_46 : decode cX4_isSpare 46 = .ok (.getfield 54, 3) := by decide +kernel
theorem dX4_isSpare_49 : decode cX4_isSpare 49 = .ok (.iload_n 1, 1) := by decide +kernel
theorem dX4_isSpare_50 : decode cX4_isSpare 50 = .ok (.iload_n 2, 1) := by decide +kernel
theorem dX4_isSpare_51 : decode cX4_isSpare 51 = .ok (.invokevirtual 116, 3) := by decide +kernel
theorem dX4_isSpare_54 : decode cX4_isSpare 54 = .ok (.aload_n 0, 1) := by decide +kernel
theorem dX4_isSpare_55 : decode cX4_isSpare 55 = .ok (.getfield 66, 3) := by decide +kernel
theorem dX4_isSpare_58 : decode cX4_isSpare 58 = .ok (.aload_n 0, 1) := by decide +kernel
theorem dX4_isSpare_59 : decode cX4_isSpare 59 = .ok (.getfield 54, 3) := by decide +kernel
theorem dX4_isSpare_62 : decode cX4_isSpare 62 = .ok (.invokevirtual 186, 3) := by decide +kernel
theorem dX4_isSpare_65 : decode cX4_isSpare 65 = .ok (.iload_n 3, 1) := by decide +kernel
theorem dX4_isSpare_66 : decode cX4_isSpare 66 = .ok (.if_icmp .ne 7, 3) := by decide +kernel
theorem dX4_isSpare_69 : decode cX4_isSpare 69 = .ok (.iconst 1, 1) := by decide +kernel
theorem dX4_isSpare_70 : decode cX4_isSpare 70 = .ok (.goto 4, 3) := by decide +kernel
theorem dX4_isSpare_73 : decode cX4_isSpare 73 = .ok (.iconst 0, 1) := by decide +kernel
theorem dX4_isSpare_74 : decode cX4_isSpare 74 = .ok (.ireturn, 1) := by decide +kernel
theorem dX4_requireMember_0 : decode cX4_requireMember 0 = .ok (.iload_n 1, 1) := by decide +kernel
theorem dX4_requireMember_1 : decode cX4_requireMember 1 = .ok (.ifCond .lt 11, 3) := by decide +kernel
theorem dX4_requireMember_4 : decode cX4_requireMember 4 = .ok (.iload_n 1, 1) := by decide +kernel
theorem dX4_requireMember_5 : decode cX4_requireMember 5 = .ok (.aload_n 0, 1) := by decide +kernel
theorem dX4_requireMember_6 : decode cX4_requireMember 6 = .ok (.getfield 47, 3) := by decide +kernel
theorem dX4_requireMember_9 : decode cX4_requireMember 9 = .ok (.if_icmp .lt 13, 3) := by decide +kernel
theorem dX4_requireMember_12 : decode cX4_requireMember 12 = .ok (.new 201, 3) := by decide +kernel
theorem dX4_requireMember_15 : decode cX4_requireMember 15 = .ok (.dup, 1) := by decide +kernel
theorem dX4_requireMember_16 : decode cX4_requireMember 16 = .ok (.ldc 203, 2) := by decide +kernel
theorem dX4_requireMember_18 : decode cX4_requireMember 18 = .ok (.invokespecial 205, 3) := by decide +kernel
theorem dX4_requireMember_21 : decode cX4_requireMember 21 = .ok (.athrow, 1) := by decide +kernel
theorem dX4_requireMember_22 : decode cX4_requireMember 22 = .ok (.return_, 1) := by decide +kernel
set_option maxRecDepth 20000 in
theorem ggX4_requireUnlike_X4_requireMember : GoodIn wsX4_requireUnlike wsX4_requireMember := goodIn_ca (goodIn_r _ [7, 8, 9, 10, 11, 12, 13, 14, 15, 16, 17, 18, 19, 20, 21, 22, 23, 24, 25, 26, 27, 28] (by decide +kernel) (by decide +kernel)) (goodIn_sub (fun _ h => List.mem_cons_of_mem _ (List.mem_append_right _ h)) (by decide +kernel))
set_option maxRecDepth 20000 in
theorem gX4_requireUnlike_X4_requireMember : GoodIn wsX4_requireUnlike (wsV RX4 101 RX4 yX4_requireMember wsX4_requireMember) := goodIn_app (goodIn_of _ (by decide +kernel)) ggX4_requireUnlike_X4_requireMember
theorem dX4_requireUnlike_0 : decode cX4_requireUnlike 0 = .ok (.aload_n 0, 1) := by decide +kernel
theorem dX4_requireUnlike_1 : decode cX4_requireUnlike 1 = .ok (.iload_n 1, 1) := by decide +kernel
theorem dX4_requireUnlike_2 : decode cX4_requireUnlike 2 = .ok (.invokevirtual 101, 3) := by decide +kernel
theorem dX4_requireUnlike_5 : decode cX4_requireUnlike 5 = .ok (.aload_n 0, 1) := by decide +kernel
theorem dX4_requireUnlike_6 : decode cX4_requireUnlike 6 = .ok (.iload_n 2, 1) := by decide +kernel
theorem dX4_requireUnlike_7 : decode cX4_requireUnlike 7 = .ok (.invokevirtual 101, 3) := by decide +kernel
theorem dX4_requireUnlike_10 : decode cX4_requireUnlike 10 = .ok (.iload_n 1, 1) := by decide +kernel
theorem dX4_requireUnlike_11 : decode cX4_requireUnlike 11 = .ok (.iload_n 2, 1) := by decide +kernel
theorem dX4_requireUnlike_12 : decode cX4_requireUnlike 12 = .ok (.if_icmp .ne 13, 3) := by decide +kernel
theorem dX4_requireUnlike_15 : decode cX4_requireUnlike 15 = .ok (.new 206, 3) := by decide +kernel
theorem dX4_requireUnlike_18 : decode cX4_requireUnlike 18 = .ok (.dup, 1) := by decide +kernel
theorem dX4_requireUnlike_19 : decode cX4_requireUnlike 19 = .ok (.ldc 208, 2) := by decide +kernel
theorem dX4_requireUnlike_21 : decode cX4_requireUnlike 21 = .ok (.invokespecial 210, 3) := by decide +kernel
theorem dX4_requireUnlike_24 : decode cX4_requireUnlike 24 = .ok (.athrow, 1) := by decide +kernel
theorem dX4_requireUnlike_25 : decode cX4_requireUnlike 25 = .ok (.return_, 1) := by decide +kernel
theorem dX4_requireWithin_0 : decode cX4_requireWithin 0 = .ok (.iload_n 0, 1) := by decide +kernel
theorem dX4_requireWithin_1 : decode cX4_requireWithin 1 = .ok (.iload_n 1, 1) := by decide +kernel
theorem dX4_requireWithin_2 : decode cX4_requireWithin 2 = .ok (.if_icmp .lt 8, 3) := by decide +kernel
theorem dX4_requireWithin_5 : decode cX4_requireWithin 5 = .ok (.iload_n 0, 1) := by decide +kernel
theorem dX4_requireWithin_6 : decode cX4_requireWithin 6 = .ok (.iload_n 2, 1) := by decide +kernel
theorem dX4_requireWithin_7 : decode cX4_requireWithin 7 = .ok (.if_icmp .le 13, 3) := by decide +kernel
theorem dX4_requireWithin_10 : decode cX4_requireWithin 10 = .ok (.new 206, 3) := by decide +kernel
theorem dX4_requireWithin_13 : decode cX4_requireWithin 13 = .ok (.dup, 1) := by decide +kernel
theorem dX4_requireWithin_14 : decode cX4_requireWithin 14 = .ok (.ldc 211, 2) := by decide +kernel
theorem dX4_requireWithin_16 : decode cX4_requireWithin 16 = .ok (.invokespecial 210, 3) := by decide +kernel
theorem dX4_requireWithin_19 : decode cX4_requireWithin 19 = .ok (.athrow, 1) := by decide +kernel
theorem dX4_requireWithin_20 : decode cX4_requireWithin 20 = .ok (.return_, 1) := by decide +kernel
set_option maxRecDepth 20000 in
theorem ggX4_requirePlace_X4_requireWithin : GoodIn wsX4_requirePlace wsX4_requireWithin := goodIn_ca (goodIn_r _ [4, 5, 6] (by decide +kernel) (by decide +kernel)) (goodIn_sub (fun _ h => List.mem_cons_of_mem _ (List.mem_append_right _ h)) (by decide +kernel))
set_option maxRecDepth 20000 in
theorem gX4_requirePlace_X4_requireWithin : GoodIn wsX4_requirePlace (va_wsS RX4 105 yX4_requireWithin wsX4_requireWithin) := goodIn_app (goodIn_of _ (by decide +kernel)) ggX4_requirePlace_X4_requireWithin
theorem dX4_requirePlace_0 : decode cX4_requirePlace 0 = .ok (.iload_n 0, 1) := by decide +kernel
theorem dX4_requirePlace_1 : decode cX4_requirePlace 1 = .ok (.sipush (-1000), 3) := by decide +kernel
theorem dX4_requirePlace_4 : decode cX4_requirePlace 4 = .ok (.sipush 1000, 3) := by decide +kernel
theorem dX4_requirePlace_7 : decode cX4_requirePlace 7 = .ok (.invokestatic 105, 3) := by decide +kernel
theorem dX4_requirePlace_10 : decode cX4_requirePlace 10 = .ok (.iload_n 1, 1) := by decide +kernel
theorem dX4_requirePlace_11 : decode cX4_requirePlace 11 = .ok (.sipush (-1000), 3) := by decide +kernel
theorem dX4_requirePlace_14 : decode cX4_requirePlace 14 = .ok (.sipush 1000, 3) := by decide +kernel
theorem dX4_requirePlace_17 : decode cX4_requirePlace 17 = .ok (.invokestatic 105, 3) := by decide +kernel
theorem dX4_requirePlace_20 : decode cX4_requirePlace 20 = .ok (.return_, 1) := by decide +kernel
set_option maxRecDepth 20000 in
theorem ggX4_requireValue_X4_requireWithin : GoodIn wsX4_requireValue wsX4_requireWithin := goodIn_ca (goodIn_r _ [6, 7, 8] (by decide +kernel) (by decide +kernel)) (goodIn_sub (fun _ h => List.mem_cons_of_mem _ (List.mem_append_right _ h)) (by decide +kernel))
set_option maxRecDepth 20000 in
theorem gX4_requireValue_X4_requireWithin : GoodIn wsX4_requireValue (va_wsS RX4 105 yX4_requireWithin wsX4_requireWithin) := goodIn_app (goodIn_of _ (by decide +kernel)) ggX4_requireValue_X4_requireWithin
theorem dX4_requireValue_0 : decode cX4_requireValue 0 = .ok (.iload_n 0, 1) := by decide +kernel
theorem dX4_requireValue_1 : decode cX4_requireValue 1 = .ok (.ldc 213, 2) := by decide +kernel
theorem dX4_requireValue_3 : decode cX4_requireValue 3 = .ok (.ldc 214, 2) := by decide +kernel
theorem dX4_requireValue_5 : decode cX4_requireValue 5 = .ok (.invokestatic 105, 3) := by decide +kernel
theorem dX4_requireValue_8 : decode cX4_requireValue 8 = .ok (.return_, 1) := by decide +kernel
set_option maxRecDepth 20000 in
theorem ggX4_requireRounds_X4_requireWithin : GoodIn wsX4_requireRounds wsX4_requireWithin := goodIn_ca (goodIn_r _ [4, 5, 6] (by decide +kernel) (by decide +kernel)) (goodIn_sub (fun _ h => List.mem_cons_of_mem _ (List.mem_append_right _ h)) (by decide +kernel))
set_option maxRecDepth 20000 in
theorem gX4_requireRounds_X4_requireWithin : GoodIn wsX4_requireRounds (va_wsS RX4 105 yX4_requireWithin wsX4_requireWithin) := goodIn_app (goodIn_of _ (by decide +kernel)) ggX4_requireRounds_X4_requireWithin
theorem dX4_requireRounds_0 : decode cX4_requireRounds 0 = .ok (.iload_n 0, 1) := by decide +kernel
theorem dX4_requireRounds_1 : decode cX4_requireRounds 1 = .ok (.iconst 1, 1) := by decide +kernel
theorem dX4_requireRounds_2 : decode cX4_requireRounds 2 = .ok (.bipush 50, 2) := by decide +kernel
theorem dX4_requireRounds_4 : decode cX4_requireRounds 4 = .ok (.invokestatic 105, 3) := by decide +kernel
theorem dX4_requireRounds_7 : decode cX4_requireRounds 7 = .ok (.return_, 1) := by decide +kernel
theorem dX4_squareBetween_0 : decode cX4_squareBetween 0 = .ok (.aload_n 0, 1) := by decide +kernel
theorem dX4_squareBetween_1 : decode cX4_squareBetween 1 = .ok (.getfield 9, 3) := by decide +kernel
theorem dX4_squareBetween_4 : decode cX4_squareBetween 4 = .ok (.iload_n 1, 1) := by decide +kernel
theorem dX4_squareBetween_5 : decode cX4_squareBetween 5 = .ok (.iaload, 1) := by decide +kernel
theorem dX4_squareBetween_6 : decode cX4_squareBetween 6 = .ok (.aload_n 0, 1) := by decide +kernel
theorem dX4_squareBetween_7 : decode cX4_squareBetween 7 = .ok (.getfield 9, 3) := by decide +kernel
theorem dX4_squareBetween_10 : decode cX4_squareBetween 10 = .ok (.iload_n 2, 1) := by decide +kernel
theorem dX4_squareBetween_11 : decode cX4_squareBetween 11 = .ok (.iaload, 1) := by decide +kernel
theorem dX4_squareBetween_12 : decode cX4_squareBetween 12 = .ok (.isub, 1) := by decide +kernel
theorem dX4_squareBetween_13 : decode cX4_squareBetween 13 = .ok (.istore_n 3, 1) := by decide +kernel
theorem dX4_squareBetween_14 : decode cX4_squareBetween 14 = .ok (.aload_n 0, 1) := by decide +kernel
theorem dX4_squareBetween_15 : decode cX4_squareBetween 15 = .ok (.getfield 13, 3) := by decide +kernel
theorem dX4_squareBetween_18 : decode cX4_squareBetween 18 = .ok (.iload_n 1, 1) := by decide +kernel
theorem dX4_squareBetween_19 : decode cX4_squareBetween 19 = .ok (.iaload, 1) := by decide +kernel
theorem dX4_squareBetween_20 : decode cX4_squareBetween 20 = .ok (.aload_n 0, 1) := by decide +kernel
theorem dX4_squareBetween_21 : decode cX4_squareBetween 21 = .ok (.getfield 13, 3) := by decide +kernel
theorem dX4_squareBetween_24 : decode cX4_squareBetween 24 = .ok (.iload_n 2, 1) := by decide +kernel
theorem dX4_squareBetween_25 : decode cX4_squareBetween 25 = .ok (.iaload, 1) := by decide +kernel
theorem dX4_squareBetween_26 : decode cX4_squareBetween 26 = .ok (.isub, 1) := by decide +kernel
theorem dX4_squareBetween_27 : decode cX4_squareBetween 27 = .ok (.istore 4, 2) := by decide +kernel
theorem dX4_squareBetween_29 : decode cX4_squareBetween 29 = .ok (.iload_n 3, 1) := by decide +kernel
theorem dX4_squareBetween_30 : decode cX4_squareBetween 30 = .ok (.iload_n 3, 1) := by decide +kernel
theorem dX4_squareBetween_31 : decode cX4_squareBetween 31 = .ok (.imul, 1) := by decide +kernel
theorem dX4_squareBetween_32 : decode cX4_squareBetween 32 = .ok (.iload 4, 2) := by decide +kernel
theorem dX4_squareBetween_34 : decode cX4_squareBetween 34 = .ok (.iload 4, 2) := by decide +kernel
theorem dX4_squareBetween_36 : decode cX4_squareBetween 36 = .ok (.imul, 1) := by decide +kernel
theorem dX4_squareBetween_37 : decode cX4_squareBetween 37 = .ok (.iadd, 1) := by decide +kernel
theorem dX4_squareBetween_38 : decode cX4_squareBetween 38 = .ok (.ireturn, 1) := by decide +kernel
set_option maxRecDepth 20000 in
theorem ggX4_hears_X1_joins : GoodIn wsX4_hears wsX1_joins := goodIn_r _ [7, 8, 9, 10, 5, 11, 37] (by decide +kernel) (by decide +kernel)
set_option maxRecDepth 20000 in
theorem gX4_hears_X1_joins_n112 : GoodIn wsX4_hears (wsX1_joins) := ggX4_hears_X1_joins
set_option maxRecDepth 20000 in
theorem ggX4_hears_X4_squareBetween : GoodIn wsX4_hears wsX4_squareBetween := goodIn_r _ [16, 17, 18, 19, 20, 21, 22, 23, 24, 25, 26, 27, 28, 29, 30, 31, 32, 33, 34, 35, 36] (by decide +kernel) (by decide +kernel)
set_option maxRecDepth 20000 in
theorem gX4_hears_X4_squareBetween : GoodIn wsX4_hears (wsV RX4 215 RX4 yX4_squareBetween wsX4_squareBetween) := goodIn_app (goodIn_of _ (by decide +kernel)) ggX4_hears_X4_squareBetween
theorem dX4_hears_0 : decode cX4_hears 0 = .ok (.iload_n 1, 1) := by decide +kernel
theorem dX4_hears_1 : decode cX4_hears 1 = .ok (.iload_n 2, 1) := by decide +kernel
theorem dX4_hears_2 : decode cX4_hears 2 = .ok (.if_icmp .eq 55, 3) := by decide +kernel
theorem dX4_hears_5 : decode cX4_hears 5 = .ok (.aload_n 0, 1) := by decide +kernel
theorem dX4_hears_6 : decode cX4_hears 6 = .ok (.getfield 16, 3) := by decide +kernel
theorem dX4_hears_9 : decode cX4_hears 9 = .ok (.iload_n 1, 1) := by decide +kernel
theorem dX4_hears_10 : decode cX4_hears 10 = .ok (.baload, 1) := by decide +kernel
theorem dX4_hears_11 : decode cX4_hears 11 = .ok (.ifCond .eq 46, 3) := by decide +kernel
theorem dX4_hears_14 : decode cX4_hears 14 = .ok (.aload_n 0, 1) := by decide +kernel
theorem dX4_hears_15 : decode cX4_hears 15 = .ok (.getfield 16, 3) := by decide +kernel
theorem dX4_hears_18 : decode cX4_hears 18 = .ok (.iload_n 2, 1) := by decide +kernel
theorem dX4_hears_19 : decode cX4_hears 19 = .ok (.baload, 1) := by decide +kernel
theorem dX4_hears_20 : decode cX4_hears 20 = .ok (.ifCond .eq 37, 3) := by decide +kernel
theorem dX4_hears_23 : decode cX4_hears 23 = .ok (.aload_n 0, 1) := by decide +kernel
theorem dX4_hears_24 : decode cX4_hears 24 = .ok (.getfield 43, 3) := by decide +kernel
theorem dX4_hears_27 : decode cX4_hears 27 = .ok (.iload_n 1, 1) := by decide +kernel
theorem dX4_hears_28 : decode cX4_hears 28 = .ok (.iload_n 2, 1) := by decide +kernel
theorem dX4_hears_29 : decode cX4_hears 29 = .ok (.invokevirtual 112, 3) := by decide +kernel
theorem dX4_hears_32 : decode cX4_hears 32 = .ok (.ifCond .ne 25, 3) := by decide +kernel
theorem dX4_hears_35 : decode cX4_hears 35 = .ok (.aload_n 0, 1) := by decide +kernel
theorem dX4_hears_36 : decode cX4_hears 36 = .ok (.iload_n 1, 1) := by decide +kernel
theorem dX4_hears_37 : decode cX4_hears 37 = .ok (.iload_n 2, 1) := by decide +kernel
theorem dX4_hears_38 : decode cX4_hears 38 = .ok (.invokevirtual 215, 3) := by decide +kernel
theorem dX4_hears_41 : decode cX4_hears 41 = .ok (.aload_n 0, 1) := by decide +kernel
theorem dX4_hears_42 : decode cX4_hears 42 = .ok (.getfield 51, 3) := by decide +kernel
theorem dX4_hears_45 : decode cX4_hears 45 = .ok (.aload_n 0, 1) := by decide +kernel
theorem dX4_hears_46 : decode cX4_hears 46 = .ok (.getfield 51, 3) := by decide +kernel
theorem dX4_hears_49 : decode cX4_hears 49 = .ok (.imul, 1) := by decide +kernel
theorem dX4_hears_50 : decode cX4_hears 50 = .ok (.if_icmp .gt 7, 3) := by decide +kernel
theorem dX4_hears_53 : decode cX4_hears 53 = .ok (.iconst 1, 1) := by decide +kernel
theorem dX4_hears_54 : decode cX4_hears 54 = .ok (.goto 4, 3) := by decide +kernel
theorem dX4_hears_57 : decode cX4_hears 57 = .ok (.iconst 0, 1) := by decide +kernel
theorem dX4_hears_58 : decode cX4_hears 58 = .ok (.ireturn, 1) := by decide +kernel
set_option maxRecDepth 20000 in
theorem ggX4_drawNet_X1_clear : GoodIn wsX4_drawNet wsX1_clear := goodIn_r _ [6, 7, 8, 9, 10, 11, 56] (by decide +kernel) (by decide +kernel)
set_option maxRecDepth 20000 in
theorem gX4_drawNet_X1_clear_n218 : GoodIn wsX4_drawNet (wsX1_clear) := ggX4_drawNet_X1_clear
set_option maxRecDepth 20000 in
theorem ggX4_drawNet_X4_hears : GoodIn wsX4_drawNet wsX4_hears := goodIn_r _ [16, 17, 18, 19, 20, 4, 21, 22, 7, 23, 24, 25, 26, 27, 28, 15, 29, 30, 31, 38, 39, 40, 41, 42, 43, 44, 45, 46, 47, 48, 49, 50, 51, 52, 53, 54, 55, 56] (by decide +kernel) (by decide +kernel)
set_option maxRecDepth 20000 in
theorem gX4_drawNet_X4_hears : GoodIn wsX4_drawNet (wsV RX4 122 RX4 yX4_hears wsX4_hears) := goodIn_app (goodIn_of _ (by decide +kernel)) ggX4_drawNet_X4_hears
set_option maxRecDepth 20000 in
theorem ggX4_drawNet_X1_join : GoodIn wsX4_drawNet wsX1_join := goodIn_r _ [34, 7, 35, 36, 4, 37, 56] (by decide +kernel) (by decide +kernel)
set_option maxRecDepth 20000 in
theorem gX4_drawNet_X1_join_n119 : GoodIn wsX4_drawNet (wsX1_join) := ggX4_drawNet_X1_join
theorem dX4_drawNet_0 : decode cX4_drawNet 0 = .ok (.aload_n 0, 1) := by decide +kernel
theorem dX4_drawNet_1 : decode cX4_drawNet 1 = .ok (.getfield 54, 3) := by decide +kernel
theorem dX4_drawNet_4 : decode cX4_drawNet 4 = .ok (.invokevirtual 218, 3) := by decide +kernel
theorem dX4_drawNet_7 : decode cX4_drawNet 7 = .ok (.iconst 0, 1) := by decide +kernel
theorem dX4_drawNet_8 : decode cX4_drawNet 8 = .ok (.istore_n 1, 1) := by decide +kernel
theorem dX4_drawNet_9 : decode cX4_drawNet 9 = .ok (.iload_n 1, 1) := by decide +kernel
theorem dX4_drawNet_10 : decode cX4_drawNet 10 = .ok (.aload_n 0, 1) := by decide +kernel
theorem dX4_drawNet_11 : decode cX4_drawNet 11 = .ok (.getfield 47, 3) := by decide +kernel
theorem dX4_drawNet_14 : decode cX4_drawNet 14 = .ok (.if_icmp .ge 40, 3) := by decide +kernel
theorem dX4_drawNet_17 : decode cX4_drawNet 17 = .ok (.iconst 0, 1) := by decide +kernel
theorem dX4_drawNet_18 : decode cX4_drawNet 18 = .ok (.istore_n 2, 1) := by decide +kernel
theorem dX4_drawNet_19 : decode cX4_drawNet 19 = .ok (.iload_n 2, 1) := by decide +kernel
theorem dX4_drawNet_20 : decode cX4_drawNet 20 = .ok (.iload_n 1, 1) := by decide +kernel
theorem dX4_drawNet_21 : decode cX4_drawNet 21 = .ok (.if_icmp .ge 27, 3) := by decide +kernel
theorem dX4_drawNet_24 : decode cX4_drawNet 24 = .ok (.aload_n 0, 1) := by decide +kernel
theorem dX4_drawNet_25 : decode cX4_drawNet 25 = .ok (.iload_n 1, 1) := by decide +kernel
theorem dX4_drawNet_26 : decode cX4_drawNet 26 = .ok (.iload_n 2, 1) := by decide +kernel
theorem dX4_drawNet_27 : decode cX4_drawNet 27 = .ok (.invokevirtual 122, 3) := by decide +kernel
theorem dX4_drawNet_30 : decode cX4_drawNet 30 = .ok (.ifCond .eq 12, 3) := by decide +kernel
theorem dX4_drawNet_33 : decode cX4_drawNet 33 = .ok (.aload_n 0, 1) := by decide +kernel
theorem dX4_drawNet_34 : decode cX4_drawNet 34 = .ok (.getfield 54, 3) := by decide +kernel
theorem dX4_drawNet_37 : decode cX4_drawNet 37 = .ok (.iload_n 1, 1) := by decide +kernel
theorem dX4_drawNet_38 : decode cX4_drawNet 38 = .ok (.iload_n 2, 1) := by decide +kernel
theorem dX4_drawNet_39 : decode cX4_drawNet 39 = .ok (.invokevirtual 119, 3) := by decide +kernel
theorem dX4_drawNet_42 : decode cX4_drawNet 42 = .ok (.iinc 2 1, 3) := by decide +kernel
theorem dX4_drawNet_45 : decode cX4_drawNet 45 = .ok (.goto (-26), 3) := by decide +kernel
theorem dX4_drawNet_48 : decode cX4_drawNet 48 = .ok (.iinc 1 1, 3) := by decide +kernel
theorem dX4_drawNet_51 : decode cX4_drawNet 51 = .ok (.goto (-42), 3) := by decide +kernel
theorem dX4_drawNet_54 : decode cX4_drawNet 54 = .ok (.return_, 1) := by decide +kernel
set_option maxRecDepth 20000 in
theorem ggX4_countGroups_X1_holds : GoodIn wsX4_countGroups wsX1_holds := goodIn_r _ [6] (by decide +kernel) (by decide +kernel)
set_option maxRecDepth 20000 in
theorem gX4_countGroups_X1_holds_n142 : GoodIn wsX4_countGroups (wsX1_holds) := ggX4_countGroups_X1_holds
set_option maxRecDepth 20000 in
theorem ggX4_countGroups_X1_groupOf : GoodIn wsX4_countGroups wsX1_groupOf := goodIn_r _ [9, 10, 11, 12, 5, 13, 14, 4, 6, 33] (by decide +kernel) (by decide +kernel)
set_option maxRecDepth 20000 in
theorem gX4_countGroups_X1_groupOf_n139 : GoodIn wsX4_countGroups (wsX1_groupOf) := ggX4_countGroups_X1_groupOf
theorem dX4_countGroups_0 : decode cX4_countGroups 0 = .ok (.iconst 0, 1) := by decide +kernel
theorem dX4_countGroups_1 : decode cX4_countGroups 1 = .ok (.istore_n 1, 1) := by decide +kernel
theorem dX4_countGroups_2 : decode cX4_countGroups 2 = .ok (.iconst 0, 1) := by decide +kernel
theorem dX4_countGroups_3 : decode cX4_countGroups 3 = .ok (.istore_n 2, 1) := by decide +kernel
theorem dX4_countGroups_4 : decode cX4_countGroups 4 = .ok (.iconst 0, 1) := by decide +kernel
theorem dX4_countGroups_5 : decode cX4_countGroups 5 = .ok (.istore_n 3, 1) := by decide +kernel
theorem dX4_countGroups_6 : decode cX4_countGroups 6 = .ok (.iload_n 3, 1) := by decide +kernel
theorem dX4_countGroups_7 : decode cX4_countGroups 7 = .ok (.aload_n 0, 1) := by decide +kernel
theorem dX4_countGroups_8 : decode cX4_countGroups 8 = .ok (.getfield 47, 3) := by decide +kernel
theorem dX4_countGroups_11 : decode cX4_countGroups 11 = .ok (.if_icmp .ge 40, 3) := by decide +kernel
theorem dX4_countGroups_14 : decode cX4_countGroups 14 = .ok (.aload_n 0, 1) := by decide +kernel
theorem dX4_countGroups_15 : decode cX4_countGroups 15 = .ok (.getfield 16, 3) := by decide +kernel
theorem dX4_countGroups_18 : decode cX4_countGroups 18 = .ok (.iload_n 3, 1) := by decide +kernel
theorem dX4_countGroups_19 : decode cX4_countGroups 19 = .ok (.baload, 1) := by decide +kernel
theorem dX4_countGroups_20 : decode cX4_countGroups 20 = .ok (.ifCond .eq 25, 3) := by decide +kernel
theorem dX4_countGroups_23 : decode cX4_countGroups 23 = .ok (.iload_n 2, 1) := by decide +kernel
theorem dX4_countGroups_24 : decode cX4_countGroups 24 = .ok (.iload_n 3, 1) := by decide +kernel
theorem dX4_countGroups_25 : decode cX4_countGroups 25 = .ok (.invokestatic 142, 3) := by decide +kernel
theorem dX4_countGroups_28 : decode cX4_countGroups 28 = .ok (.ifCond .ne 17, 3) := by decide +kernel
theorem dX4_countGroups_31 : decode cX4_countGroups 31 = .ok (.iload_n 2, 1) := by decide +kernel
theorem dX4_countGroups_32 : decode cX4_countGroups 32 = .ok (.aload_n 0, 1) := by decide +kernel
theorem dX4_countGroups_33 : decode cX4_countGroups 33 = .ok (.getfield 54, 3) := by decide +kernel
theorem dX4_countGroups_36 : decode cX4_countGroups 36 = .ok (.iload_n 3, 1) := by decide +kernel
theorem dX4_countGroups_37 : decode cX4_countGroups 37 = .ok (.invokevirtual 139, 3) := by decide +kernel
theorem dX4_countGroups_40 : decode cX4_countGroups 40 = .ok (.ior, 1) := by decide +kernel
theorem dX4_countGroups_41 : decode cX4_countGroups 41 = .ok (.istore_n 2, 1) := by decide +kernel
theorem dX4_countGroups_42 : decode cX4_countGroups 42 = .ok (.iinc 1 1, 3) := by decide +kernel
theorem dX4_countGroups_45 : decode cX4_countGroups 45 = .ok (.iinc 3 1, 3) := by decide +kernel
theorem dX4_countGroups_48 : decode cX4_countGroups 48 = .ok (.goto (-42), 3) := by decide +kernel
theorem dX4_countGroups_51 : decode cX4_countGroups 51 = .ok (.iload_n 1, 1) := by decide +kernel
theorem dX4_countGroups_52 : decode cX4_countGroups 52 = .ok (.ireturn, 1) := by decide +kernel
set_option maxRecDepth 20000 in
theorem ggX4_upSet_X1_with : GoodIn wsX4_upSet wsX1_with := goodIn_r _ [5] (by decide +kernel) (by decide +kernel)
set_option maxRecDepth 20000 in
theorem gX4_upSet_X1_with_n221 : GoodIn wsX4_upSet (wsX1_with) := ggX4_upSet_X1_with
theorem dX4_upSet_0 : decode cX4_upSet 0 = .ok (.iconst 0, 1) := by decide +kernel
theorem dX4_upSet_1 : decode cX4_upSet 1 = .ok (.istore_n 1, 1) := by decide +kernel
theorem dX4_upSet_2 : decode cX4_upSet 2 = .ok (.iconst 0, 1) := by decide +kernel
theorem dX4_upSet_3 : decode cX4_upSet 3 = .ok (.istore_n 2, 1) := by decide +kernel
theorem dX4_upSet_4 : decode cX4_upSet 4 = .ok (.iload_n 2, 1) := by decide +kernel
theorem dX4_upSet_5 : decode cX4_upSet 5 = .ok (.aload_n 0, 1) := by decide +kernel
theorem dX4_upSet_6 : decode cX4_upSet 6 = .ok (.getfield 47, 3) := by decide +kernel
theorem dX4_upSet_9 : decode cX4_upSet 9 = .ok (.if_icmp .ge 24, 3) := by decide +kernel
theorem dX4_upSet_12 : decode cX4_upSet 12 = .ok (.aload_n 0, 1) := by decide +kernel
theorem dX4_upSet_13 : decode cX4_upSet 13 = .ok (.getfield 16, 3) := by decide +kernel
theorem dX4_upSet_16 : decode cX4_upSet 16 = .ok (.iload_n 2, 1) := by decide +kernel
theorem dX4_upSet_17 : decode cX4_upSet 17 = .ok (.baload, 1) := by decide +kernel
theorem dX4_upSet_18 : decode cX4_upSet 18 = .ok (.ifCond .eq 9, 3) := by decide +kernel
theorem dX4_upSet_21 : decode cX4_upSet 21 = .ok (.iload_n 1, 1) := by decide +kernel
theorem dX4_upSet_22 : decode cX4_upSet 22 = .ok (.iload_n 2, 1) := by decide +kernel
theorem dX4_upSet_23 : decode cX4_upSet 23 = .ok (.invokestatic 221, 3) := by decide +kernel
theorem dX4_upSet_26 : decode cX4_upSet 26 = .ok (.istore_n 1, 1) := by decide +kernel
theorem dX4_upSet_27 : decode cX4_upSet 27 = .ok (.iinc 2 1, 3) := by decide +kernel
theorem dX4_upSet_30 : decode cX4_upSet 30 = .ok (.goto (-26), 3) := by decide +kernel
theorem dX4_upSet_33 : decode cX4_upSet 33 = .ok (.iload_n 1, 1) := by decide +kernel
theorem dX4_upSet_34 : decode cX4_upSet 34 = .ok (.ireturn, 1) := by decide +kernel
theorem dX4_outranks_0 : decode cX4_outranks 0 = .ok (.aload_n 0, 1) := by decide +kernel
theorem dX4_outranks_1 : decode cX4_outranks 1 = .ok (.getfield 20, 3) := by decide +kernel
theorem dX4_outranks_4 : decode cX4_outranks 4 = .ok (.iload_n 1, 1) := by decide +kernel
theorem dX4_outranks_5 : decode cX4_outranks 5 = .ok (.iaload, 1) := by decide +kernel
theorem dX4_outranks_6 : decode cX4_outranks 6 = .ok (.aload_n 0, 1) := by decide +kernel
theorem dX4_outranks_7 : decode cX4_outranks 7 = .ok (.getfield 20, 3) := by decide +kernel
theorem dX4_outranks_10 : decode cX4_outranks 10 = .ok (.iload_n 2, 1) := by decide +kernel
theorem dX4_outranks_11 : decode cX4_outranks 11 = .ok (.iaload, 1) := by decide +kernel
theorem dX4_outranks_12 : decode cX4_outranks 12 = .ok (.if_icmp .eq 24, 3) := by decide +kernel
theorem dX4_outranks_15 : decode cX4_outranks 15 = .ok (.aload_n 0, 1) := by decide +kernel
theorem dX4_outranks_16 : decode cX4_outranks 16 = .ok (.getfield 20, 3) := by decide +kernel
theorem dX4_outranks_19 : decode cX4_outranks 19 = .ok (.iload_n 1, 1) := by decide +kernel
theorem dX4_outranks_20 : decode cX4_outranks 20 = .ok (.iaload, 1) := by decide +kernel
theorem dX4_outranks_21 : decode cX4_outranks 21 = .ok (.aload_n 0, 1) := by decide +kernel
theorem dX4_outranks_22 : decode cX4_outranks 22 = .ok (.getfield 20, 3) := by decide +kernel
theorem dX4_outranks_25 : decode cX4_outranks 25 = .ok (.iload_n 2, 1) := by decide +kernel
theorem dX4_outranks_26 : decode cX4_outranks 26 = .ok (.iaload, 1) := by decide +kernel
theorem dX4_outranks_27 : decode cX4_outranks 27 = .ok (.if_icmp .le 7, 3) := by decide +kernel
theorem dX4_outranks_30 : decode cX4_outranks 30 = .ok (.iconst 1, 1) := by decide +kernel
theorem dX4_outranks_31 : decode cX4_outranks 31 = .ok (.goto 4, 3) := by decide +kernel
theorem dX4_outranks_34 : decode cX4_outranks 34 = .ok (.iconst 0, 1) := by decide +kernel
theorem dX4_outranks_35 : decode cX4_outranks 35 = .ok (.ireturn, 1) := by decide +kernel
theorem dX4_outranks_36 : decode cX4_outranks 36 = .ok (.iload_n 1, 1) := by decide +kernel
theorem dX4_outranks_37 : decode cX4_outranks 37 = .ok (.iload_n 2, 1) := by decide +kernel
theorem dX4_outranks_38 : decode cX4_outranks 38 = .ok (.if_icmp .ge 7, 3) := by decide +kernel
theorem dX4_outranks_41 : decode cX4_outranks 41 = .ok (.iconst 1, 1) := by decide +kernel
theorem dX4_outranks_42 : decode cX4_outranks 42 = .ok (.goto 4, 3) := by decide +kernel
theorem dX4_outranks_45 : decode cX4_outranks 45 = .ok (.iconst 0, 1) := by decide +kernel
theorem dX4_outranks_46 : decode cX4_outranks 46 = .ok (.ireturn, 1) := by decide +kernel
set_option maxRecDepth 20000 in
theorem ggX4_exchangeEstimates_J7_fill_53178 : GoodIn wsX4_exchangeEstimates wsJ7_fill_53178 := goodIn_r _ [8] (by decide +kernel) (by decide +kernel)
set_option maxRecDepth 20000 in
theorem gX4_exchangeEstimates_J7_fill_53178 : GoodIn wsX4_exchangeEstimates (va_wsS RX4 84 yJ7_fill_53178 wsJ7_fill_53178) := goodIn_app (goodIn_of _ (by decide +kernel)) ggX4_exchangeEstimates_J7_fill_53178
set_option maxRecDepth 20000 in
theorem ggX4_exchangeEstimates_X1_joins : GoodIn wsX4_exchangeEstimates wsX1_joins := goodIn_r _ [12, 13, 14, 15, 10, 16, 58] (by decide +kernel) (by decide +kernel)
set_option maxRecDepth 20000 in
theorem gX4_exchangeEstimates_X1_joins_n112 : GoodIn wsX4_exchangeEstimates (wsX1_joins) := ggX4_exchangeEstimates_X1_joins
set_option maxRecDepth 20000 in
theorem ggX4_exchangeEstimates_X4_flowBetween : GoodIn wsX4_exchangeEstimates wsX4_flowBetween := goodIn_r _ [21, 3, 22, 23, 24, 25, 4, 26, 10, 27, 28, 13, 29, 30, 31, 32, 33, 34, 35, 40, 41, 42, 43, 44, 45, 46, 47, 48, 49, 50, 51, 52, 53, 54, 55, 56, 57, 58] (by decide +kernel) (by decide +kernel)
set_option maxRecDepth 20000 in
theorem gX4_exchangeEstimates_X4_flowBetween : GoodIn wsX4_exchangeEstimates (wsV RX4 224 RX4 yX4_flowBetween wsX4_flowBetween) := goodIn_app (goodIn_of _ (by decide +kernel)) ggX4_exchangeEstimates_X4_flowBetween
set_option maxRecDepth 20000 in
theorem ggX4_exchangeEstimates_X4_addChanges : GoodIn wsX4_exchangeEstimates wsX4_addChanges := goodIn_r _ [39, 2, 40, 41, 42, 43, 44, 45, 46, 47, 48, 49, 50, 51, 52, 53, 54, 55, 56, 57] (by decide +kernel) (by decide +kernel)
set_option maxRecDepth 20000 in
theorem gX4_exchangeEstimates_X4_addChanges : GoodIn wsX4_exchangeEstimates (wsV RX4 227 RX4 yX4_addChanges wsX4_addChanges) := goodIn_app (goodIn_of _ (by decide +kernel)) ggX4_exchangeEstimates_X4_addChanges
theorem dX4_exchangeEstimates_0 : decode cX4_exchangeEstimates 0 = .ok (.aload_n 0, 1) := by decide +kernel
theorem dX4_exchangeEstimates_1 : decode cX4_exchangeEstimates 1 = .ok (.getfield 57, 3) := by decide +kernel
theorem dX4_exchangeEstimates_4 : decode cX4_exchangeEstimates 4 = .ok (.iconst 0, 1) := by decide +kernel
theorem dX4_exchangeEstimates_5 : decode cX4_exchangeEstimates 5 = .ok (.invokestatic 84, 3) := by decide +kernel
theorem dX4_exchangeEstimates_8 : decode cX4_exchangeEstimates 8 = .ok (.iconst 0, 1) := by decide +kernel
theorem dX4_exchangeEstimates_9 : decode cX4_exchangeEstimates 9 = .ok (.istore_n 1, 1) := by decide +kernel
theorem dX4_exchangeEstimates_10 : decode cX4_exchangeEstimates 10 = .ok (.iload_n 1, 1) := by decide +kernel
theorem dX4_exchangeEstimates_11 : decode cX4_exchangeEstimates 11 = .ok (.aload_n 0, 1) := by decide +kernel
theorem dX4_exchangeEstimates_12 : decode cX4_exchangeEstimates 12 = .ok (.getfield 47, 3) := by decide +kernel
theorem dX4_exchangeEstimates_15 : decode cX4_exchangeEstimates 15 = .ok (.if_icmp .ge 66, 3) := by decide +kernel
theorem dX4_exchangeEstimates_18 : decode cX4_exchangeEstimates 18 = .ok (.iload_n 1, 1) := by decide +kernel
theorem dX4_exchangeEstimates_19 : decode cX4_exchangeEstimates 19 = .ok (.iconst 1, 1) := by decide +kernel
theorem dX4_exchangeEstimates_20 : decode cX4_exchangeEstimates 20 = .ok (.iadd, 1) := by decide +kernel
theorem dX4_exchangeEstimates_21 : decode cX4_exchangeEstimates 21 = .ok (.istore_n 2, 1) := by decide +kernel
theorem dX4_exchangeEstimates_22 : decode cX4_exchangeEstimates 22 = .ok (.iload_n 2, 1) := by decide +kernel
theorem dX4_exchangeEstimates_23 : decode cX4_exchangeEstimates 23 = .ok (.aload_n 0, 1) := by decide +kernel
theorem dX4_exchangeEstimates_24 : decode cX4_exchangeEstimates 24 = .ok (.getfield 47, 3) := by decide +kernel
theorem dX4_exchangeEstimates_27 : decode cX4_exchangeEstimates 27 = .ok (.if_icmp .ge 48, 3) := by decide +kernel
theorem dX4_exchangeEstimates_30 : decode cX4_exchangeEstimates 30 = .ok (.aload_n 0, 1) := by decide +kernel
theorem dX4_exchangeEstimates_31 : decode cX4_exchangeEstimates 31 = .ok (.getfield 54, 3) := by decide +kernel
theorem dX4_exchangeEstimates_34 : decode cX4_exchangeEstimates 34 = .ok (.iload_n 1, 1) := by decide +kernel
theorem dX4_exchangeEstimates_35 : decode cX4_exchangeEstimates 35 = .ok (.iload_n 2, 1) := by decide +kernel
theorem dX4_exchangeEstimates_36 : decode cX4_exchangeEstimates 36 = .ok (.invokevirtual 112, 3) := by decide +kernel
theorem dX4_exchangeEstimates_39 : decode cX4_exchangeEstimates 39 = .ok (.ifCond .eq 30, 3) := by decide +kernel
theorem dX4_exchangeEstimates_42 : decode cX4_exchangeEstimates 42 = .ok (.aload_n 0, 1) := by decide +kernel
theorem dX4_exchangeEstimates_43 : decode cX4_exchangeEstimates 43 = .ok (.iload_n 1, 1) := by decide +kernel
theorem dX4_exchangeEstimates_44 : decode cX4_exchangeEstimates 44 = .ok (.iload_n 2, 1) := by decide +kernel
theorem dX4_exchangeEstimates_45 : decode cX4_exchangeEstimates 45 = .ok (.invokevirtual 224, 3) := by decide +kernel
theorem dX4_exchangeEstimates_48 : decode cX4_exchangeEstimates 48 = .ok (.istore_n 3, 1) := by decide +kernel
theorem dX4_exchangeEstimates_49 : decode cX4_exchangeEstimates 49 = .ok (.aload_n 0, 1) := by decide +kernel
theorem dX4_exchangeEstimates_50 : decode cX4_exchangeEstimates 50 = .ok (.getfield 57, 3) := by decide +kernel
theorem dX4_exchangeEstimates_53 : decode cX4_exchangeEstimates 53 = .ok (.iload_n 1, 1) := by decide +kernel
theorem dX4_exchangeEstimates_54 : decode cX4_exchangeEstimates 54 = .ok (.dup2, 1) := by decide +kernel
theorem dX4_exchangeEstimates_55 : decode cX4_exchangeEstimates 55 = .ok (.iaload, 1) := by decide +kernel
theorem dX4_exchangeEstimates_56 : decode cX4_exchangeEstimates 56 = .ok (.iload_n 3, 1) := by decide +kernel
theorem dX4_exchangeEstimates_57 : decode cX4_exchangeEstimates 57 = .ok (.isub, 1) := by decide +kernel
theorem dX4_exchangeEstimates_58 : decode cX4_exchangeEstimates 58 = .ok (.iastore, 1) := by decide +kernel
theorem dX4_exchangeEstimates_59 : decode cX4_exchangeEstimates 59 = .ok (.aload_n 0, 1) := by decide +kernel
theorem dX4_exchangeEstimates_60 : decode cX4_exchangeEstimates 60 = .ok (.getfield 57, 3) := by decide +kernel
theorem dX4_exchangeEstimates_63 : decode cX4_exchangeEstimates 63 = .ok (.iload_n 2, 1) := by decide +kernel
theorem dX4_exchangeEstimates_64 : decode cX4_exchangeEstimates 64 = .ok (.dup2, 1) := by decide +kernel
theorem dX4_exchangeEstimates_65 : decode cX4_exchangeEstimates 65 = .ok (.iaload, 1) := by decide +kernel
theorem dX4_exchangeEstimates_66 : decode cX4_exchangeEstimates 66 = .ok (.iload_n 3, 1) := by decide +kernel
theorem dX4_exchangeEstimates_67 : decode cX4_exchangeEstimates 67 = .ok (.iadd, 1) := by decide +kernel
theorem dX4_exchangeEstimates_68 : decode cX4_exchangeEstimates 68 = .ok (.iastore, 1) := by decide +kernel
theorem dX4_exchangeEstimates_69 : decode cX4_exchangeEstimates 69 = .ok (.iinc 2 1, 3) := by decide +kernel
theorem dX4_exchangeEstimates_72 : decode cX4_exchangeEstimates 72 = .ok (.goto (-50), 3) := by decide +kernel
theorem dX4_exchangeEstimates_75 : decode cX4_exchangeEstimates 75 = .ok (.iinc 1 1, 3) := by decide +kernel
theorem dX4_exchangeEstimates_78 : decode cX4_exchangeEstimates 78 = .ok (.goto (-68), 3) := by decide +kernel
theorem dX4_exchangeEstimates_81 : decode cX4_exchangeEstimates 81 = .ok (.aload_n 0, 1) := by decide +kernel
theorem dX4_exchangeEstimates_82 : decode cX4_exchangeEstimates 82 = .ok (.aload_n 0, 1) := by decide +kernel
theorem dX4_exchangeEstimates_83 : decode cX4_exchangeEstimates 83 = .ok (.getfield 23, 3) := by decide +kernel
theorem dX4_exchangeEstimates_86 : decode cX4_exchangeEstimates 86 = .ok (.aload_n 0, 1) := by decide +kernel
theorem dX4_exchangeEstimates_87 : decode cX4_exchangeEstimates 87 = .ok (.getfield 57, 3) := by decide +kernel
theorem dX4_exchangeEstimates_90 : decode cX4_exchangeEstimates 90 = .ok (.invokevirtual 227, 3) := by decide +kernel
theorem dX4_exchangeEstimates_93 : decode cX4_exchangeEstimates 93 = .ok (.return_, 1) := by decide +kernel
set_option maxRecDepth 20000 in
theorem ggX4_flowBetween_X1_degreeOf : GoodIn wsX4_flowBetween wsX1_degreeOf := goodIn_r _ [10, 11, 12, 13, 14, 15, 16, 17, 18, 37] (by decide +kernel) (by decide +kernel)
set_option maxRecDepth 20000 in
theorem gX4_flowBetween_X1_degreeOf_n132 : GoodIn wsX4_flowBetween (wsX1_degreeOf) := ggX4_flowBetween_X1_degreeOf
theorem dX4_flowBetween_0 : decode cX4_flowBetween 0 = .ok (.aload_n 0, 1) := by decide +kernel
theorem dX4_flowBetween_1 : decode cX4_flowBetween 1 = .ok (.getfield 54, 3) := by decide +kernel
theorem dX4_flowBetween_4 : decode cX4_flowBetween 4 = .ok (.iload_n 1, 1) := by decide +kernel
theorem dX4_flowBetween_5 : decode cX4_flowBetween 5 = .ok (.invokevirtual 132, 3) := by decide +kernel
theorem dX4_flowBetween_8 : decode cX4_flowBetween 8 = .ok (.aload_n 0, 1) := by decide +kernel
theorem dX4_flowBetween_9 : decode cX4_flowBetween 9 = .ok (.getfield 54, 3) := by decide +kernel
theorem dX4_flowBetween_12 : decode cX4_flowBetween 12 = .ok (.iload_n 2, 1) := by decide +kernel
theorem dX4_flowBetween_13 : decode cX4_flowBetween 13 = .ok (.invokevirtual 132, 3) := by decide +kernel
theorem dX4_flowBetween_16 : decode cX4_flowBetween 16 = .ok (.invokestatic 231, 3) := by decide +kernel
theorem dX4_flowBetween_19 : decode cX4_flowBetween 19 = .ok (.iconst 1, 1) := by decide +kernel
theorem dX4_flowBetween_20 : decode cX4_flowBetween 20 = .ok (.iadd, 1) := by decide +kernel
theorem dX4_flowBetween_21 : decode cX4_flowBetween 21 = .ok (.istore_n 3, 1) := by decide +kernel
theorem dX4_flowBetween_22 : decode cX4_flowBetween 22 = .ok (.aload_n 0, 1) := by decide +kernel
theorem dX4_flowBetween_23 : decode cX4_flowBetween 23 = .ok (.getfield 23, 3) := by decide +kernel
theorem dX4_flowBetween_26 : decode cX4_flowBetween 26 = .ok (.iload_n 1, 1) := by decide +kernel
theorem dX4_flowBetween_27 : decode cX4_flowBetween 27 = .ok (.iaload, 1) := by decide +kernel
theorem dX4_flowBetween_28 : decode cX4_flowBetween 28 = .ok (.aload_n 0, 1) := by decide +kernel
theorem dX4_flowBetween_29 : decode cX4_flowBetween 29 = .ok (.getfield 23, 3) := by decide +kernel
theorem dX4_flowBetween_32 : decode cX4_flowBetween 32 = .ok (.iload_n 2, 1) := by decide +kernel
theorem dX4_flowBetween_33 : decode cX4_flowBetween 33 = .ok (.iaload, 1) := by decide +kernel
theorem dX4_flowBetween_34 : decode cX4_flowBetween 34 = .ok (.isub, 1) := by decide +kernel
theorem dX4_flowBetween_35 : decode cX4_flowBetween 35 = .ok (.iload_n 3, 1) := by decide +kernel
theorem dX4_flowBetween_36 : decode cX4_flowBetween 36 = .ok (.idiv, 1) := by decide +kernel
theorem dX4_flowBetween_37 : decode cX4_flowBetween 37 = .ok (.ireturn, 1) := by decide +kernel
theorem dX4_spanOfEstimates_0 : decode cX4_spanOfEstimates 0 = .ok (.aload_n 0, 1) := by decide +kernel
theorem dX4_spanOfEstimates_1 : decode cX4_spanOfEstimates 1 = .ok (.getfield 47, 3) := by decide +kernel
theorem dX4_spanOfEstimates_4 : decode cX4_spanOfEstimates 4 = .ok (.ifCond .ne 5, 3) := by decide +kernel
theorem dX4_spanOfEstimates_7 : decode cX4_spanOfEstimates 7 = .ok (.iconst 0, 1) := by decide +kernel
theorem dX4_spanOfEstimates_8 : decode cX4_spanOfEstimates 8 = .ok (.ireturn, 1) := by decide +kernel
theorem dX4_spanOfEstimates_9 : decode cX4_spanOfEstimates 9 = .ok (.aload_n 0, 1) := by decide +kernel
theorem dX4_spanOfEstimates_10 : decode cX4_spanOfEstimates 10 = .ok (.getfield 23, 3) := by decide +kernel
theorem dX4_spanOfEstimates_13 : decode cX4_spanOfEstimates 13 = .ok (.iconst 0, 1) := by decide +kernel
theorem dX4_spanOfEstimates_14 : decode cX4_spanOfEstimates 14 = .ok (.iaload, 1) := by decide +kernel
theorem dX4_spanOfEstimates_15 : decode cX4_spanOfEstimates 15 = .ok (.istore_n 1, 1) := by decide +kernel
theorem dX4_spanOfEstimates_16 : decode cX4_spanOfEstimates 16 = .ok (.aload_n 0, 1) := by decide +kernel
theorem dX4_spanOfEstimates_17 : decode cX4_spanOfEstimates 17 = .ok (.getfield 23, 3) := by decide +kernel
theorem dX4_spanOfEstimates_20 : decode cX4_spanOfEstimates 20 = .ok (.iconst 0, 1) := by decide +kernel
theorem dX4_spanOfEstimates_21 : decode cX4_spanOfEstimates 21 = .ok (.iaload, 1) := by decide +kernel
theorem dX4_spanOfEstimates_22 : decode cX4_spanOfEstimates 22 = .ok (.istore_n 2, 1) := by decide +kernel
theorem dX4_spanOfEstimates_23 : decode cX4_spanOfEstimates 23 = .ok (.iconst 1, 1) := by decide +kernel
theorem dX4_spanOfEstimates_24 : decode cX4_spanOfEstimates 24 = .ok (.istore_n 3, 1) := by decide +kernel
theorem dX4_spanOfEstimates_25 : decode cX4_spanOfEstimates 25 = .ok (.iload_n 3, 1) := by decide +kernel
theorem dX4_spanOfEstimates_26 : decode cX4_spanOfEstimates 26 = .ok (.aload_n 0, 1) := by decide +kernel
theorem dX4_spanOfEstimates_27 : decode cX4_spanOfEstimates 27 = .ok (.getfield 47, 3) := by decide +kernel
theorem dX4_spanOfEstimates_30 : decode cX4_spanOfEstimates 30 = .ok (.if_icmp .ge 31, 3) := by decide +kernel
theorem dX4_spanOfEstimates_33 : decode cX4_spanOfEstimates 33 = .ok (.iload_n 1, 1) := by decide +kernel
theorem dX4_spanOfEstimates_34 : decode cX4_spanOfEstimates 34 = .ok (.aload_n 0, 1) := by decide +kernel
theorem dX4_spanOfEstimates_35 : decode cX4_spanOfEstimates 35 = .ok (.getfield 23, 3) := by decide +kernel
theorem dX4_spanOfEstimates_38 : decode cX4_spanOfEstimates 38 = .ok (.iload_n 3, 1) := by decide +kernel
theorem dX4_spanOfEstimates_39 : decode cX4_spanOfEstimates 39 = .ok (.iaload, 1) := by decide +kernel
theorem dX4_spanOfEstimates_40 : decode cX4_spanOfEstimates 40 = .ok (.invokestatic 234, 3) := by decide +kernel
theorem dX4_spanOfEstimates_43 : decode cX4_spanOfEstimates 43 = .ok (.istore_n 1, 1) := by decide +kernel
theorem dX4_spanOfEstimates_44 : decode cX4_spanOfEstimates 44 = .ok (.iload_n 2, 1) := by decide +kernel
theorem dX4_spanOfEstimates_45 : decode cX4_spanOfEstimates 45 = .ok (.aload_n 0, 1) := by decide +kernel
theorem dX4_spanOfEstimates_46 : decode cX4_spanOfEstimates 46 = .ok (.getfield 23, 3) := by decide +kernel
theorem dX4_spanOfEstimates_49 : decode cX4_spanOfEstimates 49 = .ok (.iload_n 3, 1) := by decide +kernel
theorem dX4_spanOfEstimates_50 : decode cX4_spanOfEstimates 50 = .ok (.iaload, 1) := by decide +kernel
theorem dX4_spanOfEstimates_51 : decode cX4_spanOfEstimates 51 = .ok (.invokestatic 231, 3) := by decide +kernel
theorem dX4_spanOfEstimates_54 : decode cX4_spanOfEstimates 54 = .ok (.istore_n 2, 1) := by decide +kernel
theorem dX4_spanOfEstimates_55 : decode cX4_spanOfEstimates 55 = .ok (.iinc 3 1, 3) := by decide +kernel
theorem dX4_spanOfEstimates_58 : decode cX4_spanOfEstimates 58 = .ok (.goto (-33), 3) := by decide +kernel
theorem dX4_spanOfEstimates_61 : decode cX4_spanOfEstimates 61 = .ok (.iload_n 2, 1) := by decide +kernel
theorem dX4_spanOfEstimates_62 : decode cX4_spanOfEstimates 62 = .ok (.iload_n 1, 1) := by decide +kernel
theorem dX4_spanOfEstimates_63 : decode cX4_spanOfEstimates 63 = .ok (.isub, 1) := by decide +kernel
theorem dX4_spanOfEstimates_64 : decode cX4_spanOfEstimates 64 = .ok (.ireturn, 1) := by decide +kernel
set_option maxRecDepth 20000 in
theorem ggX4_handHalves_J7_fill_53178 : GoodIn wsX4_handHalves wsJ7_fill_53178 := goodIn_r _ [10] (by decide +kernel) (by decide +kernel)
set_option maxRecDepth 20000 in
theorem gX4_handHalves_J7_fill_53178 : GoodIn wsX4_handHalves (va_wsS RX4 84 yJ7_fill_53178 wsJ7_fill_53178) := goodIn_app (goodIn_of _ (by decide +kernel)) ggX4_handHalves_J7_fill_53178
set_option maxRecDepth 20000 in
theorem ggX4_handHalves_X4_nextReceiver : GoodIn wsX4_handHalves wsX4_nextReceiver := goodIn_r _ [15, 3, 16, 6, 17, 18, 19, 20, 21, 22, 23, 24, 32, 33, 34, 35, 36, 37, 38, 39, 40, 41, 42, 43, 44, 45, 46, 47, 48, 49, 50] (by decide +kernel) (by decide +kernel)
set_option maxRecDepth 20000 in
theorem gX4_handHalves_X4_nextReceiver : GoodIn wsX4_handHalves (wsV RX4 237 RX4 yX4_nextReceiver wsX4_nextReceiver) := goodIn_app (goodIn_of _ (by decide +kernel)) ggX4_handHalves_X4_nextReceiver
set_option maxRecDepth 20000 in
theorem ggX4_handHalves_X4_handOver : GoodIn wsX4_handHalves wsX4_handOver := goodIn_r _ [27] (by decide +kernel) (by decide +kernel)
set_option maxRecDepth 20000 in
theorem gX4_handHalves_X4_handOver : GoodIn wsX4_handHalves (va_wsS RX4 240 yX4_handOver wsX4_handOver) := goodIn_app (goodIn_of _ (by decide +kernel)) ggX4_handHalves_X4_handOver
set_option maxRecDepth 20000 in
theorem ggX4_handHalves_X4_addChanges : GoodIn wsX4_handHalves wsX4_addChanges := goodIn_r _ [31, 3, 32, 33, 34, 35, 36, 37, 38, 39, 40, 41, 42, 43, 44, 45, 46, 47, 48, 49] (by decide +kernel) (by decide +kernel)
set_option maxRecDepth 20000 in
theorem gX4_handHalves_X4_addChanges : GoodIn wsX4_handHalves (wsV RX4 227 RX4 yX4_addChanges wsX4_addChanges) := goodIn_app (goodIn_of _ (by decide +kernel)) ggX4_handHalves_X4_addChanges
theorem dX4_handHalves_0 : decode cX4_handHalves 0 = .ok (.aload_n 0, 1) := by decide +kernel
theorem dX4_handHalves_1 : decode cX4_handHalves 1 = .ok (.getfield 57, 3) := by decide +kernel
theorem dX4_handHalves_4 : decode cX4_handHalves 4 = .ok (.iconst 0, 1) := by decide +kernel
theorem dX4_handHalves_5 : decode cX4_handHalves 5 = .ok (.invokestatic 84, 3) := by decide +kernel
theorem dX4_handHalves_8 : decode cX4_handHalves 8 = .ok (.aload_n 0, 1) := by decide +kernel
theorem dX4_handHalves_9 : decode cX4_handHalves 9 = .ok (.getfield 60, 3) := by decide +kernel
theorem dX4_handHalves_12 : decode cX4_handHalves 12 = .ok (.iconst 0, 1) := by decide +kernel
theorem dX4_handHalves_13 : decode cX4_handHalves 13 = .ok (.invokestatic 84, 3) := by decide +kernel
theorem dX4_handHalves_16 : decode cX4_handHalves 16 = .ok (.iconst 0, 1) := by decide +kernel
theorem dX4_handHalves_17 : decode cX4_handHalves 17 = .ok (.istore_n 1, 1) := by decide +kernel
theorem dX4_handHalves_18 : decode cX4_handHalves 18 = .ok (.iconst 0, 1) := by decide +kernel
theorem dX4_handHalves_19 : decode cX4_handHalves 19 = .ok (.istore_n 2, 1) := by decide +kernel
theorem dX4_handHalves_20 : decode cX4_handHalves 20 = .ok (.iload_n 2, 1) := by decide +kernel
theorem dX4_handHalves_21 : decode cX4_handHalves 21 = .ok (.aload_n 0, 1) := by decide +kernel
theorem dX4_handHalves_22 : decode cX4_handHalves 22 = .ok (.getfield 47, 3) := by decide +kernel
theorem dX4_handHalves_25 : decode cX4_handHalves 25 = .ok (.if_icmp .ge 63, 3) := by decide +kernel
theorem dX4_handHalves_28 : decode cX4_handHalves 28 = .ok (.aload_n 0, 1) := by decide +kernel
theorem dX4_handHalves_29 : decode cX4_handHalves 29 = .ok (.iload_n 2, 1) := by decide +kernel
theorem dX4_handHalves_30 : decode cX4_handHalves 30 = .ok (.invokevirtual 237, 3) := by decide +kernel
theorem dX4_handHalves_33 : decode cX4_handHalves 33 = .ok (.istore_n 3, 1) := by decide +kernel
theorem dX4_handHalves_34 : decode cX4_handHalves 34 = .ok (.iload_n 3, 1) := by decide +kernel
theorem dX4_handHalves_35 : decode cX4_handHalves 35 = .ok (.ifCond .lt 47, 3) := by decide +kernel
theorem dX4_handHalves_38 : decode cX4_handHalves 38 = .ok (.aload_n 0, 1) := by decide +kernel
theorem dX4_handHalves_39 : decode cX4_handHalves 39 = .ok (.getfield 26, 3) := by decide +kernel
theorem dX4_handHalves_42 : decode cX4_handHalves 42 = .ok (.iload_n 2, 1) := by decide +kernel
theorem dX4_handHalves_43 : decode cX4_handHalves 43 = .ok (.iaload, 1) := by decide +kernel
theorem dX4_handHalves_44 : decode cX4_handHalves 44 = .ok (.iconst 2, 1) := by decide +kernel
theorem dX4_handHalves_45 : decode cX4_handHalves 45 = .ok (.idiv, 1) := by decide +kernel
theorem dX4_handHalves_46 : decode cX4_handHalves 46 = .ok (.iload_n 2, 1) := by decide +kernel
theorem dX4_handHalves_47 : decode cX4_handHalves 47 = .ok (.iload_n 3, 1) := by decide +kernel
theorem dX4_handHalves_48 : decode cX4_handHalves 48 = .ok (.aload_n 0, 1) := by decide +kernel
theorem dX4_handHalves_49 : decode cX4_handHalves 49 = .ok (.getfield 57, 3) := by decide +kernel
theorem dX4_handHalves_52 : decode cX4_handHalves 52 = .ok (.invokestatic 240, 3) := by decide +kernel
theorem dX4_handHalves_55 : decode cX4_handHalves 55 = .ok (.aload_n 0, 1) := by decide +kernel
theorem dX4_handHalves_56 : decode cX4_handHalves 56 = .ok (.getfield 29, 3) := by decide +kernel
theorem dX4_handHalves_59 : decode cX4_handHalves 59 = .ok (.iload_n 2, 1) := by decide +kernel
theorem dX4_handHalves_60 : decode cX4_handHalves 60 = .ok (.iaload, 1) := by decide +kernel
theorem dX4_handHalves_61 : decode cX4_handHalves 61 = .ok (.iconst 2, 1) := by decide +kernel
theorem dX4_handHalves_62 : decode cX4_handHalves 62 = .ok (.idiv, 1) := by decide +kernel
theorem dX4_handHalves_63 : decode cX4_handHalves 63 = .ok (.iload_n 2, 1) := by decide +kernel
theorem dX4_handHalves_64 : decode cX4_handHalves 64 = .ok (.iload_n 3, 1) := by decide +kernel
theorem dX4_handHalves_65 : decode cX4_handHalves 65 = .ok (.aload_n 0, 1) := by decide +kernel
theorem dX4_handHalves_66 : decode cX4_handHalves 66 = .ok (.getfield 60, 3) := by decide +kernel
theorem dX4_handHalves_69 : decode cX4_handHalves 69 = .ok (.invokestatic 240, 3) := by decide +kernel
theorem dX4_handHalves_72 : decode cX4_handHalves 72 = .ok (.aload_n 0, 1) := by decide +kernel
theorem dX4_handHalves_73 : decode cX4_handHalves 73 = .ok (.getfield 32, 3) := by decide +kernel
theorem dX4_handHalves_76 : decode cX4_handHalves 76 = .ok (.iload_n 2, 1) := by decide +kernel
theorem dX4_handHalves_77 : decode cX4_handHalves 77 = .ok (.iload_n 3, 1) := by decide +kernel
theorem dX4_handHalves_78 : decode cX4_handHalves 78 = .ok (.iastore, 1) := by decide +kernel
theorem dX4_handHalves_79 : decode cX4_handHalves 79 = .ok (.iinc 1 1, 3) := by decide +kernel
theorem dX4_handHalves_82 : decode cX4_handHalves 82 = .ok (.iinc 2 1, 3) := by decide +kernel
theorem dX4_handHalves_85 : decode cX4_handHalves 85 = .ok (.goto (-65), 3) := by decide +kernel
theorem dX4_handHalves_88 : decode cX4_handHalves 88 = .ok (.aload_n 0, 1) := by decide +kernel
theorem dX4_handHalves_89 : decode cX4_handHalves 89 = .ok (.aload_n 0, 1) := by decide +kernel
theorem dX4_handHalves_90 : decode cX4_handHalves 90 = .ok (.getfield 26, 3) := by decide +kernel
theorem dX4_handHalves_93 : decode cX4_handHalves 93 = .ok (.aload_n 0, 1) := by decide +kernel
theorem dX4_handHalves_94 : decode cX4_handHalves 94 = .ok (.getfield 57, 3) := by decide +kernel
theorem dX4_handHalves_97 : decode cX4_handHalves 97 = .ok (.invokevirtual 227, 3) := by decide +kernel
theorem dX4_handHalves_100 : decode cX4_handHalves 100 = .ok (.aload_n 0, 1) := by decide +kernel
theorem dX4_handHalves_101 : decode cX4_handHalves 101 = .ok (.aload_n 0, 1) := by decide +kernel
theorem dX4_handHalves_102 : decode cX4_handHalves 102 = .ok (.getfield 29, 3) := by decide +kernel
theorem dX4_handHalves_105 : decode cX4_handHalves 105 = .ok (.aload_n 0, 1) := by decide +kernel
theorem dX4_handHalves_106 : decode cX4_handHalves 106 = .ok (.getfield 60, 3) := by decide +kernel
theorem dX4_handHalves_109 : decode cX4_handHalves 109 = .ok (.invokevirtual 227, 3) := by decide +kernel
theorem dX4_handHalves_112 : decode cX4_handHalves 112 = .ok (.iload_n 1, 1) := by decide +kernel
theorem dX4_handHalves_113 : decode cX4_handHalves 113 = .ok (.ireturn, 1) := by decide +kernel
set_option maxRecDepth 20000 in
theorem ggX4_nextReceiver_X1_joins : GoodIn wsX4_nextReceiver wsX1_joins := goodIn_r _ [7, 8, 9, 10, 5, 11, 30] (by decide +kernel) (by decide +kernel)
set_option maxRecDepth 20000 in
theorem gX4_nextReceiver_X1_joins_n112 : GoodIn wsX4_nextReceiver (wsX1_joins) := ggX4_nextReceiver_X1_joins
theorem dX4_nextReceiver_0 : decode cX4_nextReceiver 0 = .ok (.iconst (-1), 1) := by decide +kernel
theorem dX4_nextReceiver_1 : decode cX4_nextReceiver 1 = .ok (.istore_n 2, 1) := by decide +kernel
theorem dX4_nextReceiver_2 : decode cX4_nextReceiver 2 = .ok (.iconst 0, 1) := by decide +kernel
theorem dX4_nextReceiver_3 : decode cX4_nextReceiver 3 = .ok (.istore_n 3, 1) := by decide +kernel
theorem dX4_nextReceiver_4 : decode cX4_nextReceiver 4 = .ok (.iload_n 3, 1) := by decide +kernel
theorem dX4_nextReceiver_5 : decode cX4_nextReceiver 5 = .ok (.aload_n 0, 1) := by decide +kernel
theorem dX4_nextReceiver_6 : decode cX4_nextReceiver 6 = .ok (.getfield 47, 3) := by decide +kernel
theorem dX4_nextReceiver_9 : decode cX4_nextReceiver 9 = .ok (.if_icmp .ge 40, 3) := by decide +kernel
theorem dX4_nextReceiver_12 : decode cX4_nextReceiver 12 = .ok (.aload_n 0, 1) := by decide +kernel
theorem dX4_nextReceiver_13 : decode cX4_nextReceiver 13 = .ok (.getfield 54, 3) := by decide +kernel
theorem dX4_nextReceiver_16 : decode cX4_nextReceiver 16 = .ok (.iload_n 1, 1) := by decide +kernel
theorem dX4_nextReceiver_17 : decode cX4_nextReceiver 17 = .ok (.iload_n 3, 1) := by decide +kernel
theorem dX4_nextReceiver_18 : decode cX4_nextReceiver 18 = .ok (.invokevirtual 112, 3) := by decide +kernel
theorem dX4_nextReceiver_21 : decode cX4_nextReceiver 21 = .ok (.ifCond .eq 22, 3) := by decide +kernel
theorem dX4_nextReceiver_24 : decode cX4_nextReceiver 24 = .ok (.iload_n 3, 1) := by decide +kernel
theorem dX4_nextReceiver_25 : decode cX4_nextReceiver 25 = .ok (.aload_n 0, 1) := by decide +kernel
theorem dX4_nextReceiver_26 : decode cX4_nextReceiver 26 = .ok (.getfield 32, 3) := by decide +kernel
theorem dX4_nextReceiver_29 : decode cX4_nextReceiver 29 = .ok (.iload_n 1, 1) := by decide +kernel
theorem dX4_nextReceiver_30 : decode cX4_nextReceiver 30 = .ok (.iaload, 1) := by decide +kernel
theorem dX4_nextReceiver_31 : decode cX4_nextReceiver 31 = .ok (.if_icmp .le 5, 3) := by decide +kernel
theorem dX4_nextReceiver_34 : decode cX4_nextReceiver 34 = .ok (.iload_n 3, 1) := by decide +kernel
theorem dX4_nextReceiver_35 : decode cX4_nextReceiver 35 = .ok (.ireturn, 1) := by decide +kernel
theorem dX4_nextReceiver_36 : decode cX4_nextReceiver 36 = .ok (.iload_n 2, 1) := by decide +kernel
theorem dX4_nextReceiver_37 : decode cX4_nextReceiver 37 = .ok (.iconst (-1), 1) := by decide +kernel
theorem dX4_nextReceiver_38 : decode cX4_nextReceiver 38 = .ok (.if_icmp .ne 5, 3) := by decide +kernel
theorem dX4_nextReceiver_41 : decode cX4_nextReceiver 41 = .ok (.iload_n 3, 1) := by decide +kernel
theorem dX4_nextReceiver_42 : decode cX4_nextReceiver 42 = .ok (.istore_n 2, 1) := by decide +kernel
theorem dX4_nextReceiver_43 : decode cX4_nextReceiver 43 = .ok (.iinc 3 1, 3) := by decide +kernel
theorem dX4_nextReceiver_46 : decode cX4_nextReceiver 46 = .ok (.goto (-42), 3) := by decide +kernel
theorem dX4_nextReceiver_49 : decode cX4_nextReceiver 49 = .ok (.iload_n 2, 1) := by decide +kernel
theorem dX4_nextReceiver_50 : decode cX4_nextReceiver 50 = .ok (.ireturn, 1) := by decide +kernel
theorem dX4_handOver_0 : decode cX4_handOver 0 = .ok (.aload_n 3, 1) := by decide +kernel
theorem dX4_handOver_1 : decode cX4_handOver 1 = .ok (.iload_n 1, 1) := by decide +kernel
theorem dX4_handOver_2 : decode cX4_handOver 2 = .ok (.dup2, 1) := by decide +kernel
theorem dX4_handOver_3 : decode cX4_handOver 3 = .ok (.iaload, 1) := by decide +kernel
theorem dX4_handOver_4 : decode cX4_handOver 4 = .ok (.iload_n 0, 1) := by decide +kernel
theorem dX4_handOver_5 : decode cX4_handOver 5 = .ok (.isub, 1) := by decide +kernel
theorem dX4_handOver_6 : decode cX4_handOver 6 = .ok (.iastore, 1) := by decide +kernel
theorem dX4_handOver_7 : decode cX4_handOver 7 = .ok (.aload_n 3, 1) := by decide +kernel
theorem dX4_handOver_8 : decode cX4_handOver 8 = .ok (.iload_n 2, 1) := by decide +kernel
theorem dX4_handOver_9 : decode cX4_handOver 9 = .ok (.dup2, 1) := by decide +kernel
theorem dX4_handOver_10 : decode cX4_handOver 10 = .ok (.iaload, 1) := by decide +kernel
theorem dX4_handOver_11 : decode cX4_handOver 11 = .ok (.iload_n 0, 1) := by decide +kernel
theorem dX4_handOver_12 : decode cX4_handOver 12 = .ok (.iadd, 1) := by decide +kernel
theorem dX4_handOver_13 : decode cX4_handOver 13 = .ok (.iastore, 1) := by decide +kernel
theorem dX4_handOver_14 : decode cX4_handOver 14 = .ok (.return_, 1) := by decide +kernel
theorem dX4_addChanges_0 : decode cX4_addChanges 0 = .ok (.iconst 0, 1) := by decide +kernel
theorem dX4_addChanges_1 : decode cX4_addChanges 1 = .ok (.istore_n 3, 1) := by decide +kernel
theorem dX4_addChanges_2 : decode cX4_addChanges 2 = .ok (.iload_n 3, 1) := by decide +kernel
theorem dX4_addChanges_3 : decode cX4_addChanges 3 = .ok (.aload_n 0, 1) := by decide +kernel
theorem dX4_addChanges_4 : decode cX4_addChanges 4 = .ok (.getfield 47, 3) := by decide +kernel
theorem dX4_addChanges_7 : decode cX4_addChanges 7 = .ok (.if_icmp .ge 18, 3) := by decide +kernel
theorem dX4_addChanges_10 : decode cX4_addChanges 10 = .ok (.aload_n 1, 1) := by decide +kernel
theorem dX4_addChanges_11 : decode cX4_addChanges 11 = .ok (.iload_n 3, 1) := by decide +kernel
theorem dX4_addChanges_12 : decode cX4_addChanges 12 = .ok (.dup2, 1) := by decide +kernel
theorem dX4_addChanges_13 : decode cX4_addChanges 13 = .ok (.iaload, 1) := by decide +kernel
theorem dX4_addChanges_14 : decode cX4_addChanges 14 = .ok (.aload_n 2, 1) := by decide +kernel
theorem dX4_addChanges_15 : decode cX4_addChanges 15 = .ok (.iload_n 3, 1) := by decide +kernel
theorem dX4_addChanges_16 : decode cX4_addChanges 16 = .ok (.iaload, 1) := by decide +kernel
theorem dX4_addChanges_17 : decode cX4_addChanges 17 = .ok (.iadd, 1) := by decide +kernel
theorem dX4_addChanges_18 : decode cX4_addChanges 18 = .ok (.iastore, 1) := by decide +kernel
theorem dX4_addChanges_19 : decode cX4_addChanges 19 = .ok (.iinc 3 1, 3) := by decide +kernel
theorem dX4_addChanges_22 : decode cX4_addChanges 22 = .ok (.goto (-20), 3) := by decide +kernel
theorem dX4_addChanges_25 : decode cX4_addChanges 25 = .ok (.return_, 1) := by decide +kernel
set_option maxRecDepth 20000 in
theorem ggX4_stepTogether_X4_drawNet : GoodIn wsX4_stepTogether wsX4_drawNet := goodIn_r _ [10, 11, 1, 12, 13, 14, 15, 16, 17, 18, 19, 20, 21, 22, 23, 9, 24, 25, 26, 27, 28, 29, 30, 31, 32, 33, 34, 35, 36, 37, 3, 5, 38, 39, 40, 41, 42, 43, 72, 73, 74, 75, 76, 77, 78, 79, 80, 81, 82, 83, 84, 85, 86, 87, 88, 89, 90] (by decide +kernel) (by decide +kernel)
set_option maxRecDepth 20000 in
theorem gX4_stepTogether_X4_drawNet : GoodIn wsX4_stepTogether (wsV RX4 125 RX4 yX4_drawNet wsX4_drawNet) := goodIn_app (goodIn_of _ (by decide +kernel)) ggX4_stepTogether_X4_drawNet
set_option maxRecDepth 20000 in
theorem ggX4_stepTogether_X4_stepOf : GoodIn wsX4_stepTogether wsX4_stepOf := goodIn_r _ [47, 1, 48, 49, 50, 51, 52, 53, 54, 55, 56, 57, 58, 59, 60, 9, 61, 11, 62, 28, 13, 29, 30, 16, 31, 32, 33, 34, 35, 36, 37, 3, 5, 72, 73, 74, 75, 76, 77, 78, 79, 80, 81, 82, 83, 84, 85, 86, 87, 88, 89, 90] (by decide +kernel) (by decide +kernel)
set_option maxRecDepth 20000 in
theorem gX4_stepTogether_X4_stepOf : GoodIn wsX4_stepTogether (wsV RX4 244 RX4 yX4_stepOf wsX4_stepOf) := goodIn_app (goodIn_of _ (by decide +kernel)) ggX4_stepTogether_X4_stepOf
set_option maxRecDepth 20000 in
theorem ggX4_stepTogether_X4_keptOnPlane : GoodIn wsX4_stepTogether wsX4_keptOnPlane := goodIn_r _ [65, 66, 67, 53, 68, 69, 70, 71] (by decide +kernel) (by decide +kernel)
set_option maxRecDepth 20000 in
theorem gX4_stepTogether_X4_keptOnPlane : GoodIn wsX4_stepTogether (va_wsS RX4 248 yX4_keptOnPlane wsX4_keptOnPlane) := goodIn_app (goodIn_of _ (by decide +kernel)) ggX4_stepTogether_X4_keptOnPlane
theorem dX4_stepTogether_0 : decode cX4_stepTogether 0 = .ok (.aload_n 0, 1) := by decide +kernel
theorem dX4_stepTogether_1 : decode cX4_stepTogether 1 = .ok (.invokevirtual 125, 3) := by decide +kernel
theorem dX4_stepTogether_4 : decode cX4_stepTogether 4 = .ok (.iconst 0, 1) := by decide +kernel
theorem dX4_stepTogether_5 : decode cX4_stepTogether 5 = .ok (.istore_n 1, 1) := by decide +kernel
theorem dX4_stepTogether_6 : decode cX4_stepTogether 6 = .ok (.iload_n 1, 1) := by decide +kernel
theorem dX4_stepTogether_7 : decode cX4_stepTogether 7 = .ok (.aload_n 0, 1) := by decide +kernel
theorem dX4_stepTogether_8 : decode cX4_stepTogether 8 = .ok (.getfield 47, 3) := by decide +kernel
theorem dX4_stepTogether_11 : decode cX4_stepTogether 11 = .ok (.if_icmp .ge 39, 3) := by decide +kernel
theorem dX4_stepTogether_14 : decode cX4_stepTogether 14 = .ok (.aload_n 0, 1) := by decide +kernel
theorem dX4_stepTogether_15 : decode cX4_stepTogether 15 = .ok (.getfield 57, 3) := by decide +kernel
theorem dX4_stepTogether_18 : decode cX4_stepTogether 18 = .ok (.iload_n 1, 1) := by decide +kernel
theorem dX4_stepTogether_19 : decode cX4_stepTogether 19 = .ok (.aload_n 0, 1) := by decide +kernel
theorem dX4_stepTogether_20 : decode cX4_stepTogether 20 = .ok (.iload_n 1, 1) := by decide +kernel
theorem dX4_stepTogether_21 : decode cX4_stepTogether 21 = .ok (.aload_n 0, 1) := by decide +kernel
theorem dX4_stepTogether_22 : decode cX4_stepTogether 22 = .ok (.getfield 9, 3) := by decide +kernel
theorem dX4_stepTogether_25 : decode cX4_stepTogether 25 = .ok (.invokevirtual 244, 3) := by decide +kernel
theorem dX4_stepTogether_28 : decode cX4_stepTogether 28 = .ok (.iastore, 1) := by decide +kernel
theorem dX4_stepTogether_29 : decode cX4_stepTogether 29 = .ok (.aload_n 0, 1) := by decide +kernel
theorem dX4_stepTogether_30 : decode cX4_stepTogether 30 = .ok (.getfield 60, 3) := by decide +kernel
theorem dX4_stepTogether_33 : decode cX4_stepTogether 33 = .ok (.iload_n 1, 1) := by decide +kernel
theorem dX4_stepTogether_34 : decode cX4_stepTogether 34 = .ok (.aload_n 0, 1) := by decide +kernel
theorem dX4_stepTogether_35 : decode cX4_stepTogether 35 = .ok (.iload_n 1, 1) := by decide +kernel
theorem dX4_stepTogether_36 : decode cX4_stepTogether 36 = .ok (.aload_n 0, 1) := by decide +kernel
theorem dX4_stepTogether_37 : decode cX4_stepTogether 37 = .ok (.getfield 13, 3) := by decide +kernel
theorem dX4_stepTogether_40 : decode cX4_stepTogether 40 = .ok (.invokevirtual 244, 3) := by decide +kernel
theorem dX4_stepTogether_43 : decode cX4_stepTogether 43 = .ok (.iastore, 1) := by decide +kernel
theorem dX4_stepTogether_44 : decode cX4_stepTogether 44 = .ok (.iinc 1 1, 3) := by decide +kernel
theorem dX4_stepTogether_47 : decode cX4_stepTogether 47 = .ok (.goto (-41), 3) := by decide +kernel
theorem dX4_stepTogether_50 : decode cX4_stepTogether 50 = .ok (.iconst 0, 1) := by decide +kernel
theorem dX4_stepTogether_51 : decode cX4_stepTogether 51 = .ok (.istore_n 1, 1) := by decide +kernel
theorem dX4_stepTogether_52 : decode cX4_stepTogether 52 = .ok (.iload_n 1, 1) := by decide +kernel
theorem dX4_stepTogether_53 : decode cX4_stepTogether 53 = .ok (.aload_n 0, 1) := by decide +kernel
theorem dX4_stepTogether_54 : decode cX4_stepTogether 54 = .ok (.getfield 47, 3) := by decide +kernel
theorem dX4_stepTogether_57 : decode cX4_stepTogether 57 = .ok (.if_icmp .ge 53, 3) := by decide +kernel
theorem dX4_stepTogether_60 : decode cX4_stepTogether 60 = .ok (.aload_n 0, 1) := by decide +kernel
theorem dX4_stepTogether_61 : decode cX4_stepTogether 61 = .ok (.getfield 9, 3) := by decide +kernel
theorem dX4_stepTogether_64 : decode cX4_stepTogether 64 = .ok (.iload_n 1, 1) := by decide +kernel
theorem dX4_stepTogether_65 : decode cX4_stepTogether 65 = .ok (.aload_n 0, 1) := by decide +kernel
theorem dX4_stepTogether_66 : decode cX4_stepTogether 66 = .ok (.getfield 9, 3) := by decide +kernel
theorem dX4_stepTogether_69 : decode cX4_stepTogether 69 = .ok (.iload_n 1, 1) := by decide +kernel
theorem dX4_stepTogether_70 : decode cX4_stepTogether 70 = .ok (.iaload, 1) := by decide +kernel
theorem dX4_stepTogether_71 : decode cX4_stepTogether 71 = .ok (.aload_n 0, 1) := by decide +kernel
theorem dX4_stepTogether_72 : decode cX4_stepTogether 72 = .ok (.getfield 57, 3) := by decide +kernel
theorem dX4_stepTogether_75 : decode cX4_stepTogether 75 = .ok (.iload_n 1, 1) := by decide +kernel
theorem dX4_stepTogether_76 : decode cX4_stepTogether 76 = .ok (.iaload, 1) := by decide +kernel
theorem dX4_stepTogether_77 : decode cX4_stepTogether 77 = .ok (.isub, 1) := by decide +kernel
theorem dX4_stepTogether_78 : decode cX4_stepTogether 78 = .ok (.invokestatic 248, 3) := by decide +kernel
theorem dX4_stepTogether_81 : decode cX4_stepTogether 81 = .ok (.iastore, 1) := by decide +kernel
theorem dX4_stepTogether_82 : decode cX4_stepTogether 82 = .ok (.aload_n 0, 1) := by decide +kernel
theorem dX4_stepTogether_83 : decode cX4_stepTogether 83 = .ok (.getfield 13, 3) := by decide +kernel
theorem dX4_stepTogether_86 : decode cX4_stepTogether 86 = .ok (.iload_n 1, 1) := by decide +kernel
theorem dX4_stepTogether_87 : decode cX4_stepTogether 87 = .ok (.aload_n 0, 1) := by decide +kernel
theorem dX4_stepTogether_88 : decode cX4_stepTogether 88 = .ok (.getfield 13, 3) := by decide +kernel
theorem dX4_stepTogether_91 : decode cX4_stepTogether 91 = .ok (.iload_n 1, 1) := by decide +kernel
theorem dX4_stepTogether_92 : decode cX4_stepTogether 92 = .ok (.iaload, 1) := by decide +kernel
theorem dX4_stepTogether_93 : decode cX4_stepTogether 93 = .ok (.aload_n 0, 1) := by decide +kernel
theorem dX4_stepTogether_94 : decode cX4_stepTogether 94 = .ok (.getfield 60, 3) := by decide +kernel
theorem dX4_stepTogether_97 : decode cX4_stepTogether 97 = .ok (.iload_n 1, 1) := by decide +kernel
theorem dX4_stepTogether_98 : decode cX4_stepTogether 98 = .ok (.iaload, 1) := by decide +kernel
theorem dX4_stepTogether_99 : decode cX4_stepTogether 99 = .ok (.isub, 1) := by decide +kernel
theorem dX4_stepTogether_100 : decode cX4_stepTogether 100 = .ok (.invokestatic 248, 3) := by decide +kernel
theorem dX4_stepTogether_103 : decode cX4_stepTogether 103 = .ok (.iastore, 1) := by decide +kernel
theorem dX4_stepTogether_104 : decode cX4_stepTogether 104 = .ok (.iinc 1 1, 3) := by decide +kernel
theorem dX4_stepTogether_107 : decode cX4_stepTogether 107 = .ok (.goto (-55), 3) := by decide +kernel
theorem dX4_stepTogether_110 : decode cX4_stepTogether 110 = .ok (.return_, 1) := by decide +kernel
set_option maxRecDepth 20000 in
theorem ggX4_stepOf_X4_excessOf : GoodIn wsX4_stepOf wsX4_excessOf := goodIn_r _ [16, 17, 18, 19, 20, 21, 22, 23, 24, 25, 26, 27, 28, 29, 15, 30, 31, 32, 33, 34, 35, 36, 37, 38, 39, 40, 41, 42, 43, 44, 45, 46, 47, 48, 49, 50, 51] (by decide +kernel) (by decide +kernel)
set_option maxRecDepth 20000 in
theorem gX4_stepOf_X4_excessOf : GoodIn wsX4_stepOf (wsV RX4 171 RX4 yX4_excessOf wsX4_excessOf) := goodIn_app (goodIn_of _ (by decide +kernel)) ggX4_stepOf_X4_excessOf
theorem dX4_stepOf_0 : decode cX4_stepOf 0 = .ok (.lconst 0, 1) := by decide +kernel
theorem dX4_stepOf_1 : decode cX4_stepOf 1 = .ok (.lstore_n 3, 1) := by decide +kernel
theorem dX4_stepOf_2 : decode cX4_stepOf 2 = .ok (.iconst 0, 1) := by decide +kernel
theorem dX4_stepOf_3 : decode cX4_stepOf 3 = .ok (.istore 5, 2) := by decide +kernel
theorem dX4_stepOf_5 : decode cX4_stepOf 5 = .ok (.iload 5, 2) := by decide +kernel
theorem dX4_stepOf_7 : decode cX4_stepOf 7 = .ok (.aload_n 0, 1) := by decide +kernel
theorem dX4_stepOf_8 : decode cX4_stepOf 8 = .ok (.getfield 47, 3) := by decide +kernel
theorem dX4_stepOf_11 : decode cX4_stepOf 11 = .ok (.if_icmp .ge 34, 3) := by decide +kernel
theorem dX4_stepOf_14 : decode cX4_stepOf 14 = .ok (.aload_n 2, 1) := by decide +kernel
theorem dX4_stepOf_15 : decode cX4_stepOf 15 = .ok (.iload_n 1, 1) := by decide +kernel
theorem dX4_stepOf_16 : decode cX4_stepOf 16 = .ok (.iaload, 1) := by decide +kernel
theorem dX4_stepOf_17 : decode cX4_stepOf 17 = .ok (.aload_n 2, 1) := by decide +kernel
theorem dX4_stepOf_18 : decode cX4_stepOf 18 = .ok (.iload 5, 2) := by decide +kernel
theorem dX4_stepOf_20 : decode cX4_stepOf 20 = .ok (.iaload, 1) := by decide +kernel
theorem dX4_stepOf_21 : decode cX4_stepOf 21 = .ok (.isub, 1) := by decide +kernel
theorem dX4_stepOf_22 : decode cX4_stepOf 22 = .ok (.i2l, 1) := by decide +kernel
theorem dX4_stepOf_23 : decode cX4_stepOf 23 = .ok (.lstore 6, 2) := by decide +kernel
theorem dX4_stepOf_25 : decode cX4_stepOf 25 = .ok (.lload_n 3, 1) := by decide +kernel
theorem dX4_stepOf_26 : decode cX4_stepOf 26 = .ok (.aload_n 0, 1) := by decide +kernel
theorem dX4_stepOf_27 : decode cX4_stepOf 27 = .ok (.iload_n 1, 1) := by decide +kernel
theorem dX4_stepOf_28 : decode cX4_stepOf 28 = .ok (.iload 5, 2) := by decide +kernel
theorem dX4_stepOf_30 : decode cX4_stepOf 30 = .ok (.invokevirtual 171, 3) := by decide +kernel
theorem dX4_stepOf_33 : decode cX4_stepOf 33 = .ok (.i2l, 1) := by decide +kernel
theorem dX4_stepOf_34 : decode cX4_stepOf 34 = .ok (.lload 6, 2) := by decide +kernel
theorem dX4_stepOf_36 : decode cX4_stepOf 36 = .ok (.lmul, 1) := by decide +kernel
theorem dX4_stepOf_37 : decode cX4_stepOf 37 = .ok (.ladd, 1) := by decide +kernel
theorem dX4_stepOf_38 : decode cX4_stepOf 38 = .ok (.lstore_n 3, 1) := by decide +kernel
theorem dX4_stepOf_39 : decode cX4_stepOf 39 = .ok (.iinc 5 1, 3) := by decide +kernel
theorem dX4_stepOf_42 : decode cX4_stepOf 42 = .ok (.goto (-37), 3) := by decide +kernel
theorem dX4_stepOf_45 : decode cX4_stepOf 45 = .ok (.lload_n 3, 1) := by decide +kernel
theorem dX4_stepOf_46 : decode cX4_stepOf 46 = .ok (.ldc2_w 251, 3) := by decide +kernel
theorem dX4_stepOf_49 : decode cX4_stepOf 49 = .ok (.ldiv, 1) := by decide +kernel
theorem dX4_stepOf_50 : decode cX4_stepOf 50 = .ok (.lstore 5, 2) := by decide +kernel
theorem dX4_stepOf_52 : decode cX4_stepOf 52 = .ok (.ldc2_w 253, 3) := by decide +kernel
theorem dX4_stepOf_55 : decode cX4_stepOf 55 = .ok (.ldc2_w 255, 3) := by decide +kernel
theorem dX4_stepOf_58 : decode cX4_stepOf 58 = .ok (.lload 5, 2) := by decide +kernel
theorem dX4_stepOf_60 : decode cX4_stepOf 60 = .ok (.invokestatic 257, 3) := by decide +kernel
theorem dX4_stepOf_63 : decode cX4_stepOf 63 = .ok (.invokestatic 260, 3) := by decide +kernel
theorem dX4_stepOf_66 : decode cX4_stepOf 66 = .ok (.l2i, 1) := by decide +kernel
theorem dX4_stepOf_67 : decode cX4_stepOf 67 = .ok (.ireturn, 1) := by decide +kernel
theorem dX4_keptOnPlane_0 : decode cX4_keptOnPlane 0 = .ok (.sipush (-1000), 3) := by decide +kernel
theorem dX4_keptOnPlane_3 : decode cX4_keptOnPlane 3 = .ok (.sipush 1000, 3) := by decide +kernel
theorem dX4_keptOnPlane_6 : decode cX4_keptOnPlane 6 = .ok (.iload_n 0, 1) := by decide +kernel
theorem dX4_keptOnPlane_7 : decode cX4_keptOnPlane 7 = .ok (.invokestatic 234, 3) := by decide +kernel
theorem dX4_keptOnPlane_10 : decode cX4_keptOnPlane 10 = .ok (.invokestatic 231, 3) := by decide +kernel
theorem dX4_keptOnPlane_13 : decode cX4_keptOnPlane 13 = .ok (.ireturn, 1) := by decide +kernel
set_option maxRecDepth 20000 in
theorem ggX4_excessOf_X1_joins : GoodIn wsX4_excessOf wsX1_joins := goodIn_r _ [6, 7, 8, 9, 4, 10, 36] (by decide +kernel) (by decide +kernel)
set_option maxRecDepth 20000 in
theorem gX4_excessOf_X1_joins_n112 : GoodIn wsX4_excessOf (wsX1_joins) := ggX4_excessOf_X1_joins
set_option maxRecDepth 20000 in
theorem ggX4_excessOf_X4_squareBetween : GoodIn wsX4_excessOf wsX4_squareBetween := goodIn_r _ [15, 16, 17, 18, 19, 20, 21, 22, 23, 24, 25, 26, 27, 28, 29, 30, 31, 32, 33, 34, 35] (by decide +kernel) (by decide +kernel)
set_option maxRecDepth 20000 in
theorem gX4_excessOf_X4_squareBetween : GoodIn wsX4_excessOf (wsV RX4 215 RX4 yX4_squareBetween wsX4_squareBetween) := goodIn_app (goodIn_of _ (by decide +kernel)) ggX4_excessOf_X4_squareBetween
theorem dX4_excessOf_0 : decode cX4_excessOf 0 = .ok (.aload_n 0, 1) := by decide +kernel
theorem dX4_excessOf_1 : decode cX4_excessOf 1 = .ok (.getfield 54, 3) := by decide +kernel
theorem dX4_excessOf_4 : decode cX4_excessOf 4 = .ok (.iload_n 1, 1) := by decide +kernel
theorem dX4_excessOf_5 : decode cX4_excessOf 5 = .ok (.iload_n 2, 1) := by decide +kernel
theorem dX4_excessOf_6 : decode cX4_excessOf 6 = .ok (.invokevirtual 112, 3) := by decide +kernel
theorem dX4_excessOf_9 : decode cX4_excessOf 9 = .ok (.ifCond .eq 15, 3) := by decide +kernel
theorem dX4_excessOf_12 : decode cX4_excessOf 12 = .ok (.aload_n 0, 1) := by decide +kernel
theorem dX4_excessOf_13 : decode cX4_excessOf 13 = .ok (.getfield 37, 3) := by decide +kernel
theorem dX4_excessOf_16 : decode cX4_excessOf 16 = .ok (.iload_n 1, 1) := by decide +kernel
theorem dX4_excessOf_17 : decode cX4_excessOf 17 = .ok (.aaload, 1) := by decide +kernel
theorem dX4_excessOf_18 : decode cX4_excessOf 18 = .ok (.iload_n 2, 1) := by decide +kernel
theorem dX4_excessOf_19 : decode cX4_excessOf 19 = .ok (.iaload, 1) := by decide +kernel
theorem dX4_excessOf_20 : decode cX4_excessOf 20 = .ok (.iconst (-1), 1) := by decide +kernel
theorem dX4_excessOf_21 : decode cX4_excessOf 21 = .ok (.if_icmp .ne 5, 3) := by decide +kernel
theorem dX4_excessOf_24 : decode cX4_excessOf 24 = .ok (.iconst 0, 1) := by decide +kernel
theorem dX4_excessOf_25 : decode cX4_excessOf 25 = .ok (.ireturn, 1) := by decide +kernel
theorem dX4_excessOf_26 : decode cX4_excessOf 26 = .ok (.aload_n 0, 1) := by decide +kernel
theorem dX4_excessOf_27 : decode cX4_excessOf 27 = .ok (.iload_n 1, 1) := by decide +kernel
theorem dX4_excessOf_28 : decode cX4_excessOf 28 = .ok (.iload_n 2, 1) := by decide +kernel
theorem dX4_excessOf_29 : decode cX4_excessOf 29 = .ok (.invokevirtual 215, 3) := by decide +kernel
theorem dX4_excessOf_32 : decode cX4_excessOf 32 = .ok (.aload_n 0, 1) := by decide +kernel
theorem dX4_excessOf_33 : decode cX4_excessOf 33 = .ok (.getfield 37, 3) := by decide +kernel
theorem dX4_excessOf_36 : decode cX4_excessOf 36 = .ok (.iload_n 1, 1) := by decide +kernel
theorem dX4_excessOf_37 : decode cX4_excessOf 37 = .ok (.aaload, 1) := by decide +kernel
theorem dX4_excessOf_38 : decode cX4_excessOf 38 = .ok (.iload_n 2, 1) := by decide +kernel
theorem dX4_excessOf_39 : decode cX4_excessOf 39 = .ok (.iaload, 1) := by decide +kernel
theorem dX4_excessOf_40 : decode cX4_excessOf 40 = .ok (.isub, 1) := by decide +kernel
theorem dX4_excessOf_41 : decode cX4_excessOf 41 = .ok (.ireturn, 1) := by decide +kernel
theorem dJ6_numberOfTrailingZeros_0f7a4_0 : decode cJ6_numberOfTrailingZeros_0f7a4 0 = .ok (.iload_n 0, 1) := by decide +kernel
theorem dJ6_numberOfTrailingZeros_0f7a4_1 : decode cJ6_numberOfTrailingZeros_0f7a4 1 = .ok (.iconst (-1), 1) := by decide +kernel
theorem dJ6_numberOfTrailingZeros_0f7a4_2 : decode cJ6_numberOfTrailingZeros_0f7a4 2 = .ok (.ixor, 1) := by decide +kernel
theorem dJ6_numberOfTrailingZeros_0f7a4_3 : decode cJ6_numberOfTrailingZeros_0f7a4 3 = .ok (.iload_n 0, 1) := by decide +kernel
theorem dJ6_numberOfTrailingZeros_0f7a4_4 : decode cJ6_numberOfTrailingZeros_0f7a4 4 = .ok (.iconst 1, 1) := by decide +kernel
theorem dJ6_numberOfTrailingZeros_0f7a4_5 : decode cJ6_numberOfTrailingZeros_0f7a4 5 = .ok (.isub, 1) := by decide +kernel
theorem dJ6_numberOfTrailingZeros_0f7a4_6 : decode cJ6_numberOfTrailingZeros_0f7a4 6 = .ok (.iand, 1) := by decide +kernel
theorem dJ6_numberOfTrailingZeros_0f7a4_7 : decode cJ6_numberOfTrailingZeros_0f7a4 7 = .ok (.istore_n 0, 1) := by decide +kernel
theorem dJ6_numberOfTrailingZeros_0f7a4_8 : decode cJ6_numberOfTrailingZeros_0f7a4 8 = .ok (.iload_n 0, 1) := by decide +kernel
theorem dJ6_numberOfTrailingZeros_0f7a4_9 : decode cJ6_numberOfTrailingZeros_0f7a4 9 = .ok (.ifCond .gt 8, 3) := by decide +kernel
theorem dJ6_numberOfTrailingZeros_0f7a4_12 : decode cJ6_numberOfTrailingZeros_0f7a4 12 = .ok (.iload_n 0, 1) := by decide +kernel
theorem dJ6_numberOfTrailingZeros_0f7a4_13 : decode cJ6_numberOfTrailingZeros_0f7a4 13 = .ok (.bipush 32, 2) := by decide +kernel
theorem dJ6_numberOfTrailingZeros_0f7a4_15 : decode cJ6_numberOfTrailingZeros_0f7a4 15 = .ok (.iand, 1) := by decide +kernel
theorem dJ6_numberOfTrailingZeros_0f7a4_16 : decode cJ6_numberOfTrailingZeros_0f7a4 16 = .ok (.ireturn, 1) := by decide +kernel
theorem dJ6_numberOfTrailingZeros_0f7a4_17 : decode cJ6_numberOfTrailingZeros_0f7a4 17 = .ok (.iconst 1, 1) := by decide +kernel
theorem dJ6_numberOfTrailingZeros_0f7a4_18 : decode cJ6_numberOfTrailingZeros_0f7a4 18 = .ok (.istore_n 1, 1) := by decide +kernel
theorem dJ6_numberOfTrailingZeros_0f7a4_19 : decode cJ6_numberOfTrailingZeros_0f7a4 19 = .ok (.iload_n 0, 1) := by decide +kernel
theorem dJ6_numberOfTrailingZeros_0f7a4_20 : decode cJ6_numberOfTrailingZeros_0f7a4 20 = .ok (.ldc_w 264, 3) := by decide +kernel
theorem dJ6_numberOfTrailingZeros_0f7a4_23 : decode cJ6_numberOfTrailingZeros_0f7a4 23 = .ok (.if_icmp .le 11, 3) := by decide +kernel
theorem dJ6_numberOfTrailingZeros_0f7a4_26 : decode cJ6_numberOfTrailingZeros_0f7a4 26 = .ok (.iinc 1 16, 3) := by decide +kernel
theorem dJ6_numberOfTrailingZeros_0f7a4_29 : decode cJ6_numberOfTrailingZeros_0f7a4 29 = .ok (.iload_n 0, 1) := by decide +kernel
theorem dJ6_numberOfTrailingZeros_0f7a4_30 : decode cJ6_numberOfTrailingZeros_0f7a4 30 = .ok (.bipush 16, 2) := by decide +kernel
theorem dJ6_numberOfTrailingZeros_0f7a4_32 : decode cJ6_numberOfTrailingZeros_0f7a4 32 = .ok (.iushr, 1) := by decide +kernel
theorem dJ6_numberOfTrailingZeros_0f7a4_33 : decode cJ6_numberOfTrailingZeros_0f7a4 33 = .ok (.istore_n 0, 1) := by decide +kernel
theorem dJ6_numberOfTrailingZeros_0f7a4_34 : decode cJ6_numberOfTrailingZeros_0f7a4 34 = .ok (.iload_n 0, 1) := by decide +kernel
theorem dJ6_numberOfTrailingZeros_0f7a4_35 : decode cJ6_numberOfTrailingZeros_0f7a4 35 = .ok (.sipush 256, 3) := by decide +kernel
theorem dJ6_numberOfTrailingZeros_0f7a4_38 : decode cJ6_numberOfTrailingZeros_0f7a4 38 = .ok (.if_icmp .le 11, 3) := by decide +kernel
theorem dJ6_numberOfTrailingZeros_0f7a4_41 : decode cJ6_numberOfTrailingZeros_0f7a4 41 = .ok (.iinc 1 8, 3) := by decide +kernel
theorem dJ6_numberOfTrailingZeros_0f7a4_44 : decode cJ6_numberOfTrailingZeros_0f7a4 44 = .ok (.iload_n 0, 1) := by decide +kernel
theorem dJ6_numberOfTrailingZeros_0f7a4_45 : decode cJ6_numberOfTrailingZeros_0f7a4 45 = .ok (.bipush 8, 2) := by decide +kernel
theorem dJ6_numberOfTrailingZeros_0f7a4_47 : decode cJ6_numberOfTrailingZeros_0f7a4 47 = .ok (.iushr, 1) := by decide +kernel
theorem dJ6_numberOfTrailingZeros_0f7a4_48 : decode cJ6_numberOfTrailingZeros_0f7a4 48 = .ok (.istore_n 0, 1) := by decide +kernel
theorem dJ6_numberOfTrailingZeros_0f7a4_49 : decode cJ6_numberOfTrailingZeros_0f7a4 49 = .ok (.iload_n 0, 1) := by decide +kernel
theorem dJ6_numberOfTrailingZeros_0f7a4_50 : decode cJ6_numberOfTrailingZeros_0f7a4 50 = .ok (.bipush 16, 2) := by decide +kernel
theorem dJ6_numberOfTrailingZeros_0f7a4_52 : decode cJ6_numberOfTrailingZeros_0f7a4 52 = .ok (.if_icmp .le 10, 3) := by decide +kernel
theorem dJ6_numberOfTrailingZeros_0f7a4_55 : decode cJ6_numberOfTrailingZeros_0f7a4 55 = .ok (.iinc 1 4, 3) := by decide +kernel
theorem dJ6_numberOfTrailingZeros_0f7a4_58 : decode cJ6_numberOfTrailingZeros_0f7a4 58 = .ok (.iload_n 0, 1) := by decide +kernel
theorem dJ6_numberOfTrailingZeros_0f7a4_59 : decode cJ6_numberOfTrailingZeros_0f7a4 59 = .ok (.iconst 4, 1) := by decide +kernel
theorem dJ6_numberOfTrailingZeros_0f7a4_60 : decode cJ6_numberOfTrailingZeros_0f7a4 60 = .ok (.iushr, 1) := by decide +kernel
theorem dJ6_numberOfTrailingZeros_0f7a4_61 : decode cJ6_numberOfTrailingZeros_0f7a4 61 = .ok (.istore_n 0, 1) := by decide +kernel
theorem dJ6_numberOfTrailingZeros_0f7a4_62 : decode cJ6_numberOfTrailingZeros_0f7a4 62 = .ok (.iload_n 0, 1) := by decide +kernel
theorem dJ6_numberOfTrailingZeros_0f7a4_63 : decode cJ6_numberOfTrailingZeros_0f7a4 63 = .ok (.iconst 4, 1) := by decide +kernel
theorem dJ6_numberOfTrailingZeros_0f7a4_64 : decode cJ6_numberOfTrailingZeros_0f7a4 64 = .ok (.if_icmp .le 10, 3) := by decide +kernel
theorem dJ6_numberOfTrailingZeros_0f7a4_67 : decode cJ6_numberOfTrailingZeros_0f7a4 67 = .ok (.iinc 1 2, 3) := by decide +kernel
theorem dJ6_numberOfTrailingZeros_0f7a4_70 : decode cJ6_numberOfTrailingZeros_0f7a4 70 = .ok (.iload_n 0, 1) := by decide +kernel
theorem dJ6_numberOfTrailingZeros_0f7a4_71 : decode cJ6_numberOfTrailingZeros_0f7a4 71 = .ok (.iconst 2, 1) := by decide +kernel
theorem dJ6_numberOfTrailingZeros_0f7a4_72 : decode cJ6_numberOfTrailingZeros_0f7a4 72 = .ok (.iushr, 1) := by decide +kernel
theorem dJ6_numberOfTrailingZeros_0f7a4_73 : decode cJ6_numberOfTrailingZeros_0f7a4 73 = .ok (.istore_n 0, 1) := by decide +kernel
theorem dJ6_numberOfTrailingZeros_0f7a4_74 : decode cJ6_numberOfTrailingZeros_0f7a4 74 = .ok (.iload_n 1, 1) := by decide +kernel
theorem dJ6_numberOfTrailingZeros_0f7a4_75 : decode cJ6_numberOfTrailingZeros_0f7a4 75 = .ok (.iload_n 0, 1) := by decide +kernel
theorem dJ6_numberOfTrailingZeros_0f7a4_76 : decode cJ6_numberOfTrailingZeros_0f7a4 76 = .ok (.iconst 1, 1) := by decide +kernel
theorem dJ6_numberOfTrailingZeros_0f7a4_77 : decode cJ6_numberOfTrailingZeros_0f7a4 77 = .ok (.iushr, 1) := by decide +kernel
theorem dJ6_numberOfTrailingZeros_0f7a4_78 : decode cJ6_numberOfTrailingZeros_0f7a4 78 = .ok (.iadd, 1) := by decide +kernel
theorem dJ6_numberOfTrailingZeros_0f7a4_79 : decode cJ6_numberOfTrailingZeros_0f7a4 79 = .ok (.ireturn, 1) := by decide +kernel
theorem dJ6_bitCount_0f7a4_0 : decode cJ6_bitCount_0f7a4 0 = .ok (.iload_n 0, 1) := by decide +kernel
theorem dJ6_bitCount_0f7a4_1 : decode cJ6_bitCount_0f7a4 1 = .ok (.iload_n 0, 1) := by decide +kernel
theorem dJ6_bitCount_0f7a4_2 : decode cJ6_bitCount_0f7a4 2 = .ok (.iconst 1, 1) := by decide +kernel
theorem dJ6_bitCount_0f7a4_3 : decode cJ6_bitCount_0f7a4 3 = .ok (.iushr, 1) := by decide +kernel
theorem dJ6_bitCount_0f7a4_4 : decode cJ6_bitCount_0f7a4 4 = .ok (.ldc_w 265, 3) := by decide +kernel
theorem dJ6_bitCount_0f7a4_7 : decode cJ6_bitCount_0f7a4 7 = .ok (.iand, 1) := by decide +kernel
theorem dJ6_bitCount_0f7a4_8 : decode cJ6_bitCount_0f7a4 8 = .ok (.isub, 1) := by decide +kernel
theorem dJ6_bitCount_0f7a4_9 : decode cJ6_bitCount_0f7a4 9 = .ok (.istore_n 0, 1) := by decide +kernel
theorem dJ6_bitCount_0f7a4_10 : decode cJ6_bitCount_0f7a4 10 = .ok (.iload_n 0, 1) := by decide +kernel
theorem dJ6_bitCount_0f7a4_11 : decode cJ6_bitCount_0f7a4 11 = .ok (.ldc_w 266, 3) := by decide +kernel
theorem dJ6_bitCount_0f7a4_14 : decode cJ6_bitCount_0f7a4 14 = .ok (.iand, 1) := by decide +kernel
theorem dJ6_bitCount_0f7a4_15 : decode cJ6_bitCount_0f7a4 15 = .ok (.iload_n 0, 1) := by decide +kernel
theorem dJ6_bitCount_0f7a4_16 : decode cJ6_bitCount_0f7a4 16 = .ok (.iconst 2, 1) := by decide +kernel
theorem dJ6_bitCount_0f7a4_17 : decode cJ6_bitCount_0f7a4 17 = .ok (.iushr, 1) := by decide +kernel
theorem dJ6_bitCount_0f7a4_18 : decode cJ6_bitCount_0f7a4 18 = .ok (.ldc_w 266, 3) := by decide +kernel
theorem dJ6_bitCount_0f7a4_21 : decode cJ6_bitCount_0f7a4 21 = .ok (.iand, 1) := by decide +kernel
theorem dJ6_bitCount_0f7a4_22 : decode cJ6_bitCount_0f7a4 22 = .ok (.iadd, 1) := by decide +kernel
theorem dJ6_bitCount_0f7a4_23 : decode cJ6_bitCount_0f7a4 23 = .ok (.istore_n 0, 1) := by decide +kernel
theorem dJ6_bitCount_0f7a4_24 : decode cJ6_bitCount_0f7a4 24 = .ok (.iload_n 0, 1) := by decide +kernel
theorem dJ6_bitCount_0f7a4_25 : decode cJ6_bitCount_0f7a4 25 = .ok (.iload_n 0, 1) := by decide +kernel
theorem dJ6_bitCount_0f7a4_26 : decode cJ6_bitCount_0f7a4 26 = .ok (.iconst 4, 1) := by decide +kernel
theorem dJ6_bitCount_0f7a4_27 : decode cJ6_bitCount_0f7a4 27 = .ok (.iushr, 1) := by decide +kernel
theorem dJ6_bitCount_0f7a4_28 : decode cJ6_bitCount_0f7a4 28 = .ok (.iadd, 1) := by decide +kernel
theorem dJ6_bitCount_0f7a4_29 : decode cJ6_bitCount_0f7a4 29 = .ok (.ldc_w 267, 3) := by decide +kernel
theorem dJ6_bitCount_0f7a4_32 : decode cJ6_bitCount_0f7a4 32 = .ok (.iand, 1) := by decide +kernel
theorem dJ6_bitCount_0f7a4_33 : decode cJ6_bitCount_0f7a4 33 = .ok (.istore_n 0, 1) := by decide +kernel
theorem dJ6_bitCount_0f7a4_34 : decode cJ6_bitCount_0f7a4 34 = .ok (.iload_n 0, 1) := by decide +kernel
theorem dJ6_bitCount_0f7a4_35 : decode cJ6_bitCount_0f7a4 35 = .ok (.iload_n 0, 1) := by decide +kernel
theorem dJ6_bitCount_0f7a4_36 : decode cJ6_bitCount_0f7a4 36 = .ok (.bipush 8, 2) := by decide +kernel
theorem dJ6_bitCount_0f7a4_38 : decode cJ6_bitCount_0f7a4 38 = .ok (.iushr, 1) := by decide +kernel
theorem dJ6_bitCount_0f7a4_39 : decode cJ6_bitCount_0f7a4 39 = .ok (.iadd, 1) := by decide +kernel
theorem dJ6_bitCount_0f7a4_40 : decode cJ6_bitCount_0f7a4 40 = .ok (.istore_n 0, 1) := by decide +kernel
theorem dJ6_bitCount_0f7a4_41 : decode cJ6_bitCount_0f7a4 41 = .ok (.iload_n 0, 1) := by decide +kernel
theorem dJ6_bitCount_0f7a4_42 : decode cJ6_bitCount_0f7a4 42 = .ok (.iload_n 0, 1) := by decide +kernel
theorem dJ6_bitCount_0f7a4_43 : decode cJ6_bitCount_0f7a4 43 = .ok (.bipush 16, 2) := by decide +kernel
theorem dJ6_bitCount_0f7a4_45 : decode cJ6_bitCount_0f7a4 45 = .ok (.iushr, 1) := by decide +kernel
theorem dJ6_bitCount_0f7a4_46 : decode cJ6_bitCount_0f7a4 46 = .ok (.iadd, 1) := by decide +kernel
theorem dJ6_bitCount_0f7a4_47 : decode cJ6_bitCount_0f7a4 47 = .ok (.istore_n 0, 1) := by decide +kernel
theorem dJ6_bitCount_0f7a4_48 : decode cJ6_bitCount_0f7a4 48 = .ok (.iload_n 0, 1) := by decide +kernel
theorem dJ6_bitCount_0f7a4_49 : decode cJ6_bitCount_0f7a4 49 = .ok (.bipush 63, 2) := by decide +kernel
theorem dJ6_bitCount_0f7a4_51 : decode cJ6_bitCount_0f7a4 51 = .ok (.iand, 1) := by decide +kernel
theorem dJ6_bitCount_0f7a4_52 : decode cJ6_bitCount_0f7a4 52 = .ok (.ireturn, 1) := by decide +kernel
theorem dJ9_abs_0f7a4_0 : decode cJ9_abs_0f7a4 0 = .ok (.iload_n 0, 1) := by decide +kernel
theorem dJ9_abs_0f7a4_1 : decode cJ9_abs_0f7a4 1 = .ok (.ifCond .ge 8, 3) := by decide +kernel
theorem dJ9_abs_0f7a4_4 : decode cJ9_abs_0f7a4 4 = .ok (.iload_n 0, 1) := by decide +kernel
theorem dJ9_abs_0f7a4_5 : decode cJ9_abs_0f7a4 5 = .ok (.ineg, 1) := by decide +kernel
theorem dJ9_abs_0f7a4_6 : decode cJ9_abs_0f7a4 6 = .ok (.goto 4, 3) := by decide +kernel
theorem dJ9_abs_0f7a4_9 : decode cJ9_abs_0f7a4 9 = .ok (.iload_n 0, 1) := by decide +kernel
theorem dJ9_abs_0f7a4_10 : decode cJ9_abs_0f7a4 10 = .ok (.ireturn, 1) := by decide +kernel
theorem dJ9_max_7cf53_0 : decode cJ9_max_7cf53 0 = .ok (.iload_n 0, 1) := by decide +kernel
theorem dJ9_max_7cf53_1 : decode cJ9_max_7cf53 1 = .ok (.iload_n 1, 1) := by decide +kernel
theorem dJ9_max_7cf53_2 : decode cJ9_max_7cf53 2 = .ok (.if_icmp .lt 7, 3) := by decide +kernel
theorem dJ9_max_7cf53_5 : decode cJ9_max_7cf53 5 = .ok (.iload_n 0, 1) := by decide +kernel
theorem dJ9_max_7cf53_6 : decode cJ9_max_7cf53 6 = .ok (.goto 4, 3) := by decide +kernel
theorem dJ9_max_7cf53_9 : decode cJ9_max_7cf53 9 = .ok (.iload_n 1, 1) := by decide +kernel
theorem dJ9_max_7cf53_10 : decode cJ9_max_7cf53 10 = .ok (.ireturn, 1) := by decide +kernel
theorem dJ9_max_f86c9_0 : decode cJ9_max_f86c9 0 = .ok (.lload_n 0, 1) := by decide +kernel
theorem dJ9_max_f86c9_1 : decode cJ9_max_f86c9 1 = .ok (.lload_n 2, 1) := by decide +kernel
theorem dJ9_max_f86c9_2 : decode cJ9_max_f86c9 2 = .ok (.lcmp, 1) := by decide +kernel
theorem dJ9_max_f86c9_3 : decode cJ9_max_f86c9 3 = .ok (.ifCond .lt 7, 3) := by decide +kernel
theorem dJ9_max_f86c9_6 : decode cJ9_max_f86c9 6 = .ok (.lload_n 0, 1) := by decide +kernel
theorem dJ9_max_f86c9_7 : decode cJ9_max_f86c9 7 = .ok (.goto 4, 3) := by decide +kernel
theorem dJ9_max_f86c9_10 : decode cJ9_max_f86c9 10 = .ok (.lload_n 2, 1) := by decide +kernel
theorem dJ9_max_f86c9_11 : decode cJ9_max_f86c9 11 = .ok (.lreturn, 1) := by decide +kernel
theorem dJ9_min_7cf53_0 : decode cJ9_min_7cf53 0 = .ok (.iload_n 0, 1) := by decide +kernel
theorem dJ9_min_7cf53_1 : decode cJ9_min_7cf53 1 = .ok (.iload_n 1, 1) := by decide +kernel
theorem dJ9_min_7cf53_2 : decode cJ9_min_7cf53 2 = .ok (.if_icmp .gt 7, 3) := by decide +kernel
theorem dJ9_min_7cf53_5 : decode cJ9_min_7cf53 5 = .ok (.iload_n 0, 1) := by decide +kernel
theorem dJ9_min_7cf53_6 : decode cJ9_min_7cf53 6 = .ok (.goto 4, 3) := by decide +kernel
theorem dJ9_min_7cf53_9 : decode cJ9_min_7cf53 9 = .ok (.iload_n 1, 1) := by decide +kernel
theorem dJ9_min_7cf53_10 : decode cJ9_min_7cf53 10 = .ok (.ireturn, 1) := by decide +kernel
theorem dJ9_min_f86c9_0 : decode cJ9_min_f86c9 0 = .ok (.lload_n 0, 1) := by decide +kernel
theorem dJ9_min_f86c9_1 : decode cJ9_min_f86c9 1 = .ok (.lload_n 2, 1) := by decide +kernel
theorem dJ9_min_f86c9_2 : decode cJ9_min_f86c9 2 = .ok (.lcmp, 1) := by decide +kernel
theorem dJ9_min_f86c9_3 : decode cJ9_min_f86c9 3 = .ok (.ifCond .gt 7, 3) := by decide +kernel
theorem dJ9_min_f86c9_6 : decode cJ9_min_f86c9 6 = .ok (.lload_n 0, 1) := by decide +kernel
theorem dJ9_min_f86c9_7 : decode cJ9_min_f86c9 7 = .ok (.goto 4, 3) := by decide +kernel
theorem dJ9_min_f86c9_10 : decode cJ9_min_f86c9 10 = .ok (.lload_n 2, 1) := by decide +kernel
theorem dJ9_min_f86c9_11 : decode cJ9_min_f86c9 11 = .ok (.lreturn, 1) := by decide +kernel
theorem dJ7_fill_53178_0 : decode cJ7_fill_53178 0 = .ok (.iconst 0, 1) := by decide +kernel
theorem dJ7_fill_53178_1 : decode cJ7_fill_53178 1 = .ok (.istore_n 2, 1) := by decide +kernel
theorem dJ7_fill_53178_2 : decode cJ7_fill_53178 2 = .ok (.aload_n 0, 1) := by decide +kernel
theorem dJ7_fill_53178_3 : decode cJ7_fill_53178 3 = .ok (.arraylength, 1) := by decide +kernel
theorem dJ7_fill_53178_4 : decode cJ7_fill_53178 4 = .ok (.istore_n 3, 1) := by decide +kernel
theorem dJ7_fill_53178_5 : decode cJ7_fill_53178 5 = .ok (.iload_n 2, 1) := by decide +kernel
theorem dJ7_fill_53178_6 : decode cJ7_fill_53178 6 = .ok (.iload_n 3, 1) := by decide +kernel
theorem dJ7_fill_53178_7 : decode cJ7_fill_53178 7 = .ok (.if_icmp .ge 13, 3) := by decide +kernel
theorem dJ7_fill_53178_10 : decode cJ7_fill_53178 10 = .ok (.aload_n 0, 1) := by decide +kernel
theorem dJ7_fill_53178_11 : decode cJ7_fill_53178 11 = .ok (.iload_n 2, 1) := by decide +kernel
theorem dJ7_fill_53178_12 : decode cJ7_fill_53178 12 = .ok (.iload_n 1, 1) := by decide +kernel
theorem dJ7_fill_53178_13 : decode cJ7_fill_53178 13 = .ok (.iastore, 1) := by decide +kernel
theorem dJ7_fill_53178_14 : decode cJ7_fill_53178 14 = .ok (.iinc 2 1, 3) := by decide +kernel
theorem dJ7_fill_53178_17 : decode cJ7_fill_53178 17 = .ok (.goto (-12), 3) := by decide +kernel
theorem dJ7_fill_53178_20 : decode cJ7_fill_53178 20 = .ok (.return_, 1) := by decide +kernel
end
section
-- the store: one function for all int and boolean rows and number fields, one for all long rows
section FMW
abbrev fm_S : Type := (Nat → Nat → Int32) × (Nat → Nat → Int64)
/-- class numbers and the script (its address, length, values; how many scratch rows there are now), slots, array classes (int, boolean, long, int[], long[]), addresses -/
abbrev fm_K : Type := ((Nat → ClassId) × (Nat × Nat × (Nat → Int32) × Nat)) × (Nat → Nat → Nat) × (Nat → ClassId) × (Nat → Nat)
abbrev fm_n (K : fm_K) : Nat := K.1.2.2.2.2
def fm_wr (σ : fm_S) (q i : Nat) (v : Int32) : fm_S := (fun a b => if a = q ∧ b = i then v else σ.1 a b, σ.2)
def fm_wl (σ : fm_S) (q i : Nat) (v : Int64) : fm_S := (σ.1, fun a b => if a = q ∧ b = i then v else σ.2 a b)
def rI (σ : fm_S) (q : Nat) (i : Int32) : Int32 := σ.1 q i.toNatClampNeg
def rL (σ : fm_S) (q : Nat) (i : Int32) : Int64 := σ.2 q i.toNatClampNeg
def sI (σ : fm_S) (q : Nat) (i v : Int32) : fm_S := fm_wr σ q i.toNatClampNeg v
def sL (σ : fm_S) (q : Nat) (i : Int32) (v : Int64) : fm_S := fm_wl σ q i.toNatClampNeg v
/-- 1 int[], 2 boolean[], 3 long[], 4 int[][], 5 long[][], 0 an object -/
def fm_ty (q : Nat) : Nat := ([0,1,1,2,1,1,1,1,1, 4,1,1,1,1,1,1,1,1, 0,1, 0,1, 1,1, 0,1,1,1, 0,1, 0,5,3,3,3,3,3,3,3,3, 1,1,1, 1,1,3] : List Nat).getD q 0
def fm_len (q : Nat) : Nat := ([0,8,8,8,8,8,8,8,8, 8,8,8,8,8,8,8,8,8, 0,8, 0,8, 8,8, 0,8,8,8, 0,256, 0,8,8,8,8,8,8,8,8,8, 48,25,25, 8,8,16] : List Nat).getD q 0
def fm_ob (ad : Nat → Nat) (σ : fm_S) (q : Nat) : Nat × List Value :=
  if q = 0 then (4, [.ref (ad 1), .ref (ad 2), .ref (ad 3), .ref (ad 4), .ref (ad 5), .ref (ad 6), .ref (ad 7), .ref (ad 8), .ref (ad 9), .ref (ad 18), .int (σ.1 60 0), .int (σ.1 60 1), .ref (ad 20), .ref (ad 22), .ref (ad 23), .ref (ad 24), .ref (ad 28), .ref (ad 30)])
  else if q = 18 then (1, [.ref (ad 19)])
  else if q = 20 then (1, [.ref (ad 21)])
  else if q = 24 then (2, [.ref (ad 25), .ref (ad 26), .ref (ad 27)])
  else if q = 28 then (0, [.ref (ad 29)])
  else (3, [.ref (ad 31)])
def fm_ce (K : fm_K) (σ : fm_S) (q : Nat) : va_E :=
  if fm_ty q = 1 then .inl (K.2.2.1 0, fm_len q, .inl (σ.1 q))
  else if fm_ty q = 2 then .inl (K.2.2.1 1, fm_len q, .inl (σ.1 q))
  else if fm_ty q = 3 then .inl (K.2.2.1 2, fm_len q, .inr (.inl (σ.2 q)))
  else if fm_ty q = 4 then .inl (K.2.2.1 3, 8, .inr (.inr (.inr (.inr (fun i => if i < 8 then some (K.2.2.2 (q + 1 + i)) else none)))))
  else if fm_ty q = 5 then .inl (K.2.2.1 4, 8, .inr (.inr (.inr (.inr (fun i => if i < 8 then some (K.2.2.2 (q + 1 + i)) else none)))))
  else .inr (fm_ob K.2.2.2 σ q)
/-- the scratch rows that stand: none, one of agreement, two of spreading, one of settling -/
def fm_ex : Nat → List Nat
  | 0 => []
  | 1 => [43]
  | 2 => [43, 44]
  | _ => [45]
def fm_ids (K : fm_K) : List Nat := List.range 43 ++ fm_ex (fm_n K)
def fm_pos (q : Nat) : Nat := if q = 45 then 43 else q
def fm_in (K : fm_K) (q : Nat) : Prop := (fm_ids K)[fm_pos q]? = some q
theorem fm_exb (n : Nat) : fm_ex n = [] ∨ fm_ex n = [43] ∨ fm_ex n = [43, 44] ∨ fm_ex n = [45] := by
  match n with
  | 0 => exact Or.inl rfl
  | 1 => exact Or.inr (Or.inl rfl)
  | 2 => exact Or.inr (Or.inr (Or.inl rfl))
  | n + 3 => exact Or.inr (Or.inr (Or.inr rfl))
theorem fm_inb {K : fm_K} {q : Nat} (h : q < 43) : fm_in K q := by
  have h1 : fm_pos q = q := by unfold fm_pos; rw [if_neg (by omega)]
  unfold fm_in fm_ids
  rw [h1, List.getElem?_append_left (by simpa using h)]
  simp [h]
theorem fm_at {K : fm_K} {p q : Nat} (h : (fm_ids K)[p]? = some q) : fm_pos q = p ∧ q < 46 := by
  by_cases hp : p < 43
  · unfold fm_ids at h
    rw [List.getElem?_append_left (by simpa using hp)] at h
    have e : p = q := by
      have : (List.range 43)[p]? = some p := by simp [hp]
      rw [this] at h; exact Option.some.inj h
    subst e
    exact ⟨by unfold fm_pos; rw [if_neg (by omega)], by omega⟩
  · unfold fm_ids at h
    rw [List.getElem?_append_right (by simp; omega), List.length_range] at h
    obtain ⟨d, rfl⟩ : ∃ d, p = 43 + d := ⟨p - 43, by omega⟩
    rw [show 43 + d - 43 = d by omega] at h
    rcases fm_exb (fm_n K) with e | e | e | e <;> rw [e] at h
    · cases h
    · match d, h with
      | 0, h => cases h; exact ⟨rfl, by decide⟩
    · match d, h with
      | 0, h => cases h; exact ⟨rfl, by decide⟩
      | 1, h => cases h; exact ⟨rfl, by decide⟩
    · match d, h with
      | 0, h => cases h; exact ⟨rfl, by decide⟩
theorem fm_in_lt {K : fm_K} {q : Nat} (h : fm_in K q) : q < 46 := (fm_at h).2
def fm_W (K : fm_K) (σ : fm_S) : va_W := (fm_ids K).map (fun q => (K.2.2.2 q, fm_ce K σ q))
theorem fm_get (K : fm_K) (σ : fm_S) {q : Nat} (h : fm_in K q) : (fm_W K σ)[fm_pos q]? = some (K.2.2.2 q, fm_ce K σ q) := by
  unfold fm_W
  rw [List.getElem?_map, show (fm_ids K)[fm_pos q]? = some q from h]; rfl
theorem fm_getN (K : fm_K) (σ : fm_S) {p : Nat} {x : Nat × va_E} (h : (fm_W K σ)[p]? = some x) : ∃ q, fm_in K q ∧ fm_pos q = p ∧ x = (K.2.2.2 q, fm_ce K σ q) := by
  unfold fm_W at h
  rw [List.getElem?_map] at h
  cases e : (fm_ids K)[p]? with
  | none => rw [e] at h; cases h
  | some q =>
    rw [e] at h
    have hp := (fm_at e).1
    exact ⟨q, by unfold fm_in; rw [hp]; exact e, hp, (Option.some.inj h).symm⟩
theorem fm_set (K : fm_K) (σ σ' : fm_S) {q : Nat} {e : va_E} (h : fm_in K q) (he : fm_ce K σ' q = e) (ho : ∀ k, k < 46 → k ≠ q → fm_ce K σ' k = fm_ce K σ k) : (fm_W K σ).set (fm_pos q) (K.2.2.2 q, e) = fm_W K σ' := by
  apply List.ext_getElem?
  intro k
  unfold fm_W
  rw [List.getElem?_set, List.getElem?_map, List.getElem?_map]
  by_cases hq : fm_pos q = k
  · subst hq
    have hl : fm_pos q < (fm_ids K).length := (List.getElem?_eq_some_iff.mp h).1
    rw [if_pos rfl, if_pos (by simpa using hl), show (fm_ids K)[fm_pos q]? = some q from h, ← he]; rfl
  · rw [if_neg hq]
    cases e9 : (fm_ids K)[k]? with
    | none => rfl
    | some q9 =>
      obtain ⟨a1, a2⟩ := fm_at e9
      have hne : q9 ≠ q := fun z => hq (by rw [← z]; exact a1)
      show some (K.2.2.2 q9, fm_ce K σ q9) = some (K.2.2.2 q9, fm_ce K σ' q9)
      rw [ho q9 a2 hne]
theorem fm_wr_ne {σ : fm_S} {q i a b : Nat} {v : Int32} (h : a ≠ q) : (fm_wr σ q i v).1 a b = σ.1 a b := by
  simp [fm_wr, h]
theorem fm_wl_ne {σ : fm_S} {q i a b : Nat} {v : Int64} (h : a ≠ q) : (fm_wl σ q i v).2 a b = σ.2 a b := by
  simp [fm_wl, h]
theorem fm_ce_wr {K : fm_K} {σ : fm_S} {q i : Nat} {v : Int32} (hq : q < 46) {k : Nat} (hk : k ≠ q) : fm_ce K (fm_wr σ q i v) k = fm_ce K σ k := by
  have e1 : (fm_wr σ q i v).1 k = σ.1 k := funext fun b => fm_wr_ne hk
  have e2 : ∀ b, (fm_wr σ q i v).1 60 b = σ.1 60 b := fun b => fm_wr_ne (by omega)
  have e4 : (fm_wr σ q i v).2 = σ.2 := rfl
  simp only [fm_ce, fm_ob, e1, e2, e4]
theorem fm_ce_wl {K : fm_K} {σ : fm_S} {q i : Nat} {v : Int64} {k : Nat} (hk : k ≠ q) : fm_ce K (fm_wl σ q i v) k = fm_ce K σ k := by
  have e1 : (fm_wl σ q i v).2 k = σ.2 k := funext fun b => fm_wl_ne hk
  have e4 : (fm_wl σ q i v).1 = σ.1 := rfl
  simp only [fm_ce, fm_ob, e1, e4]
theorem fm_upd_wr (σ : fm_S) (q i : Nat) (v : Int32) : (fm_wr σ q i v).1 q = upd (σ.1 q) i v := by
  funext b; simp [fm_wr, upd]
theorem fm_upd_wl (σ : fm_S) (q i : Nat) (v : Int64) : (fm_wl σ q i v).2 q = vp_updL (σ.2 q) i v := by
  funext b; simp [fm_wl, vp_updL]
/-- the heap behind the store -/
def fm_H (K : fm_K) (σ : fm_S) (A : Nat → Prop) (s : State) (H : Heap) (locs : List Loc) : Prop := va_P (K.1.1, K.2.1) vwCl (fm_W K σ) H ∧ va_D A (fm_W K σ) ∧ va_S A s.heap H locs
def fm_tys (K : fm_K) : List (ClassId × FieldType) := [(K.2.2.1 0, .int), (K.2.2.1 1, .boolean), (K.2.2.1 2, .long), (K.2.2.1 3, .array .int), (K.2.2.1 4, .array .long)]
abbrev fm_Kn (K : fm_K) (s : State) : Prop := va_K (K.1.1, K.2.1) vwCl (fm_tys K) s
def fm_A (K : fm_K) (sz : Nat) : Nat → Prop := fun q => (∃ k, fm_in K k ∧ q = K.2.2.2 k) ∨ sz ≤ q
end FMW
section FMR
variable {p : Program} {l : Launch} {e : Env} {R : Room} {s : State} {m : MethodId} {args : Array Value} {below : List Frame} {meth : Method} {c : Code} {H : Heap} {locs : List Loc} {cells slots : Nat} {Q : State → Prop}
variable {cc : ByteArray} {pc : Nat} {ls : Array Slot} {rest : List Value} {K : fm_K} {σ : fm_S} {A : Nat → Prop}
theorem fm_ild (hx : p.tables.exec = Jvm.exec) (hb : c.code = cc) (hK : fm_Kn K s) (hH : fm_H K σ A s H locs) (q : Nat) (hq : fm_in K q) (ht : fm_ty q = 1) {n : Nat} (hn : fm_len q = n) {i : Int32} (hin : ¬ (i < 0 ∨ n ≤ i.toNatClampNeg)) (hdg : decode cc pc = .ok (.iaload, 1))
    (kk : W p l e R s m args below meth c H locs cells slots Q (F0 m (pc + 1) ls (.int (rI σ q i) :: rest))) : W p l e R s m args below meth c H locs cells slots Q (F0 m pc ls (.int i :: .ref (K.2.2.2 q) :: rest)) := by
  subst hn
  exact va_iald (f := σ.1 q) (n := fm_len q) (cA := K.2.2.1 0) hx hb hK hH.1 (fm_pos q) 0 (by rw [fm_get _ _ hq]; simp [fm_ce, ht]) rfl hin hdg kk
theorem fm_zld (hx : p.tables.exec = Jvm.exec) (hb : c.code = cc) (hK : fm_Kn K s) (hH : fm_H K σ A s H locs) (q : Nat) (hq : fm_in K q) (ht : fm_ty q = 2) {n : Nat} (hn : fm_len q = n) {i : Int32} (hin : ¬ (i < 0 ∨ n ≤ i.toNatClampNeg)) (hdg : decode cc pc = .ok (.baload, 1))
    (kk : W p l e R s m args below meth c H locs cells slots Q (F0 m (pc + 1) ls (.int (rI σ q i) :: rest))) : W p l e R s m args below meth c H locs cells slots Q (F0 m pc ls (.int i :: .ref (K.2.2.2 q) :: rest)) := by
  subst hn
  exact va_zald (f := σ.1 q) (n := fm_len q) (cA := K.2.2.1 1) hx hb hK hH.1 (fm_pos q) 1 (by rw [fm_get _ _ hq]; simp [fm_ce, ht]) rfl hin hdg kk
theorem fm_lld (hx : p.tables.exec = Jvm.exec) (hb : c.code = cc) (hK : fm_Kn K s) (hH : fm_H K σ A s H locs) (q : Nat) (hq : fm_in K q) (ht : fm_ty q = 3) {n : Nat} (hn : fm_len q = n) {i : Int32} (hin : ¬ (i < 0 ∨ n ≤ i.toNatClampNeg)) (hdg : decode cc pc = .ok (.laload, 1))
    (kk : W p l e R s m args below meth c H locs cells slots Q (F0 m (pc + 1) ls (.long (rL σ q i) :: rest))) : W p l e R s m args below meth c H locs cells slots Q (F0 m pc ls (.int i :: .ref (K.2.2.2 q) :: rest)) := by
  subst hn
  exact va_lald (f := σ.2 q) (n := fm_len q) (cA := K.2.2.1 2) hx hb hK hH.1 (fm_pos q) 2 (by rw [fm_get _ _ hq]; simp [fm_ce, ht]) rfl hin hdg kk
/-- a row of rows -/
theorem fm_ald4 (hx : p.tables.exec = Jvm.exec) (hb : c.code = cc) (hK : fm_Kn K s) (hH : fm_H K σ A s H locs) (q : Nat) (hq : fm_in K q) (ht : fm_ty q = 4) {i : Int32} (hin : ¬ (i < 0 ∨ 8 ≤ i.toNatClampNeg)) (hdg : decode cc pc = .ok (.aaload, 1))
    (kk : W p l e R s m args below meth c H locs cells slots Q (F0 m (pc + 1) ls (.ref (K.2.2.2 (q + 1 + i.toNatClampNeg)) :: rest))) : W p l e R s m args below meth c H locs cells slots Q (F0 m pc ls (.int i :: .ref (K.2.2.2 q) :: rest)) := by
  have hlt : i.toNatClampNeg < 8 := Nat.not_le.mp fun q => hin (Or.inr q)
  have ha : (fm_W K σ)[fm_pos q]? = some (K.2.2.2 q, .inl (K.2.2.1 3, 8, .inr (.inr (.inr (.inr (fun i => if i < 8 then some (K.2.2.2 (q + 1 + i)) else none)))))) := by rw [fm_get _ _ hq]; simp [fm_ce, ht]
  refine W.aald (v := .ref (K.2.2.2 (q + 1 + i.toNatClampNeg))) (ty := .array .int) hx hb (hH.1 (fm_pos q) _ ha) ((hK.2 3 _ rfl).1 8 (fun j => va_rf (if j < 8 then some (K.2.2.2 (q + 1 + j)) else none))) rfl (fun q => by cases q) (by show ¬ (i < 0 ∨ (arrV _ _ _).slots.size ≤ _); rw [arrV_size]; exact hin) (by show (arrV _ _ _).slots[_]? = _; rw [arrV_read _ _ hlt]; simp [hlt, va_rf]) rfl rfl hdg kk
theorem fm_ald5 (hx : p.tables.exec = Jvm.exec) (hb : c.code = cc) (hK : fm_Kn K s) (hH : fm_H K σ A s H locs) (q : Nat) (hq : fm_in K q) (ht : fm_ty q = 5) {i : Int32} (hin : ¬ (i < 0 ∨ 8 ≤ i.toNatClampNeg)) (hdg : decode cc pc = .ok (.aaload, 1))
    (kk : W p l e R s m args below meth c H locs cells slots Q (F0 m (pc + 1) ls (.ref (K.2.2.2 (q + 1 + i.toNatClampNeg)) :: rest))) : W p l e R s m args below meth c H locs cells slots Q (F0 m pc ls (.int i :: .ref (K.2.2.2 q) :: rest)) := by
  have hlt : i.toNatClampNeg < 8 := Nat.not_le.mp fun q => hin (Or.inr q)
  have ha : (fm_W K σ)[fm_pos q]? = some (K.2.2.2 q, .inl (K.2.2.1 4, 8, .inr (.inr (.inr (.inr (fun i => if i < 8 then some (K.2.2.2 (q + 1 + i)) else none)))))) := by rw [fm_get _ _ hq]; simp [fm_ce, ht]
  refine W.aald (v := .ref (K.2.2.2 (q + 1 + i.toNatClampNeg))) (ty := .array .long) hx hb (hH.1 (fm_pos q) _ ha) ((hK.2 4 _ rfl).1 8 (fun j => va_rf (if j < 8 then some (K.2.2.2 (q + 1 + j)) else none))) rfl (fun q => by cases q) (by show ¬ (i < 0 ∨ (arrV _ _ _).slots.size ≤ _); rw [arrV_size]; exact hin) (by show (arrV _ _ _).slots[_]? = _; rw [arrV_read _ _ hlt]; simp [hlt, va_rf]) rfl rfl hdg kk
theorem fm_ist (hx : p.tables.exec = Jvm.exec) (hb : c.code = cc) (hK : fm_Kn K s) (hH : fm_H K σ A s H locs) (q : Nat) (hq : fm_in K q) (ht : fm_ty q = 1) {n : Nat} (hn : fm_len q = n) {i x : Int32} (hin : ¬ (i < 0 ∨ n ≤ i.toNatClampNeg)) (hdg : decode cc pc = .ok (.iastore, 1))
    (kk : ∀ (H1 : Heap) (locs1 : List Loc), fm_H K (sI σ q i x) A s H1 locs1 → W p l e R s m args below meth c H1 locs1 cells slots Q (F0 m (pc + 1) ls rest)) : W p l e R s m args below meth c H locs cells slots Q (F0 m pc ls (.int x :: .int i :: .ref (K.2.2.2 q) :: rest)) := by
  subst hn
  have hset : (fm_W K σ).set (fm_pos q) (K.2.2.2 q, .inl (K.2.2.1 0, fm_len q, .inl (upd (σ.1 q) i.toNatClampNeg x))) = fm_W K (sI σ q i x) :=
    fm_set K σ (sI σ q i x) hq (by simp [fm_ce, ht, sI, fm_upd_wr]) (fun k _ hk => fm_ce_wr (fm_in_lt hq) hk)
  exact va_iast (f := σ.1 q) (n := fm_len q) (cA := K.2.2.1 0) hx hb hK hH.1 hH.2.1 hH.2.2 (fm_pos q) 0 (by rw [fm_get _ _ hq]; simp [fm_ce, ht]) rfl hin hdg (fun H1 locs1 hP hD hS => kk H1 locs1 ⟨hset ▸ hP, hset ▸ hD, hS⟩)
theorem fm_zst (hx : p.tables.exec = Jvm.exec) (hb : c.code = cc) (hK : fm_Kn K s) (hH : fm_H K σ A s H locs) (q : Nat) (hq : fm_in K q) (ht : fm_ty q = 2) {n : Nat} (hn : fm_len q = n) {i x : Int32} (hin : ¬ (i < 0 ∨ n ≤ i.toNatClampNeg)) (hdg : decode cc pc = .ok (.bastore, 1))
    (kk : ∀ (H1 : Heap) (locs1 : List Loc), fm_H K (sI σ q i (vp_nar .boolean x)) A s H1 locs1 → W p l e R s m args below meth c H1 locs1 cells slots Q (F0 m (pc + 1) ls rest)) : W p l e R s m args below meth c H locs cells slots Q (F0 m pc ls (.int x :: .int i :: .ref (K.2.2.2 q) :: rest)) := by
  subst hn
  have hset : (fm_W K σ).set (fm_pos q) (K.2.2.2 q, .inl (K.2.2.1 1, fm_len q, .inl (upd (σ.1 q) i.toNatClampNeg (vp_nar .boolean x)))) = fm_W K (sI σ q i (vp_nar .boolean x)) :=
    fm_set K σ (sI σ q i (vp_nar .boolean x)) hq (by simp [fm_ce, ht, sI, fm_upd_wr]) (fun k _ hk => fm_ce_wr (fm_in_lt hq) hk)
  exact va_zast (f := σ.1 q) (n := fm_len q) (cA := K.2.2.1 1) hx hb hK hH.1 hH.2.1 hH.2.2 (fm_pos q) 1 (by rw [fm_get _ _ hq]; simp [fm_ce, ht]) rfl hin hdg (fun H1 locs1 hP hD hS => kk H1 locs1 ⟨hset ▸ hP, hset ▸ hD, hS⟩)
theorem fm_lst (hx : p.tables.exec = Jvm.exec) (hb : c.code = cc) (hK : fm_Kn K s) (hH : fm_H K σ A s H locs) (q : Nat) (hq : fm_in K q) (ht : fm_ty q = 3) {n : Nat} (hn : fm_len q = n) {i : Int32} {x : Int64} (hin : ¬ (i < 0 ∨ n ≤ i.toNatClampNeg)) (hdg : decode cc pc = .ok (.lastore, 1))
    (kk : ∀ (H1 : Heap) (locs1 : List Loc), fm_H K (sL σ q i x) A s H1 locs1 → W p l e R s m args below meth c H1 locs1 cells slots Q (F0 m (pc + 1) ls rest)) : W p l e R s m args below meth c H locs cells slots Q (F0 m pc ls (.long x :: .int i :: .ref (K.2.2.2 q) :: rest)) := by
  subst hn
  have hset : (fm_W K σ).set (fm_pos q) (K.2.2.2 q, .inl (K.2.2.1 2, fm_len q, .inr (.inl (vp_updL (σ.2 q) i.toNatClampNeg x)))) = fm_W K (sL σ q i x) :=
    fm_set K σ (sL σ q i x) hq (by simp [fm_ce, ht, sL, fm_upd_wl]) (fun k _ hk => fm_ce_wl hk)
  exact va_last (f := σ.2 q) (n := fm_len q) (cA := K.2.2.1 2) hx hb hK hH.1 hH.2.1 hH.2.2 (fm_pos q) 2 (by rw [fm_get _ _ hq]; simp [fm_ce, ht]) rfl hin hdg (fun H1 locs1 hP hD hS => kk H1 locs1 ⟨hset ▸ hP, hset ▸ hD, hS⟩)
/-- a field of an object of the world -/
theorem fm_obj (K : fm_K) (σ : fm_S) {q : Nat} (hq : fm_in K q) (ht : fm_ty q = 0) : (fm_W K σ)[fm_pos q]? = some (K.2.2.2 q, .inr (fm_ob K.2.2.2 σ q)) := by rw [fm_get _ _ hq]; simp [fm_ce, ht]
theorem fm_getf (hx : p.tables.exec = Jvm.exec) (hb : c.code = cc) {own ref C : String} {T : u_T} {N ci index : Nat} {Ts : List Cond} (hts : ∀ w ∈ Ts, w.before args s = true) (hin : ∀ w ∈ u_ws C T N, w ∈ Ts) (hown : s.vm.findClass own = some m.cls) (hK : fm_Kn K s) (hH : fm_H K σ A s H locs) (q : Nat) (hq : fm_in K q) (ht : fm_ty q = 0) {fs : List Value} (hob : fm_ob K.2.2.2 σ q = (ci, fs)) (hc : vwCl[ci]? = some (C, T, N)) (k : Nat) (hk : k < N) (hlink : Cond.fieldLink own index ref (T k).2.1 (T k).2.2.1 ∈ Ts) (hsame : (T k).1 = ref) {v : Value} (hv : fs[k]? = some v) (hdg : decode cc pc = .ok (.getfield index, 3))
    (kk : W p l e R s m args below meth c H locs cells slots Q (F0 m (pc + 3) ls (v :: rest))) : W p l e R s m args below meth c H locs cells slots Q (F0 m pc ls (.ref (K.2.2.2 q) :: rest)) :=
  va_get (fs := fs) (ci := ci) hx hb hts hin hown hK hH.1 (fm_pos q) (by rw [fm_obj K σ hq ht, hob]) hc k hk (hts _ hlink) (fun x h => by rw [← hsame]; exact h) hv hdg kk
/-- a number field of the two objects is written -/
theorem fm_putf (hx : p.tables.exec = Jvm.exec) (hb : c.code = cc) {own ref C : String} {T : u_T} {N ci index : Nat} {Ts : List Cond} (hts : ∀ w ∈ Ts, w.before args s = true) (hin : ∀ w ∈ u_ws C T N, w ∈ Ts) (ty0 : Nat → FieldType) (hty : ∀ k, k < N → parseFieldDescriptor (T k).2.2.1 = some (ty0 k)) (hnm : ∀ a, a < N → ∀ b, b < N → a ≠ b → (T a).2.1 ≠ (T b).2.1) (hown : s.vm.findClass own = some m.cls) (hK : fm_Kn K s) (hH : fm_H K σ A s H locs) (q g j : Nat) (hq : fm_in K q) (ht : fm_ty q = 0) (hg : q = 0 ∧ g = 60) {fs : List Value} (hob : fm_ob K.2.2.2 σ q = (ci, fs)) (hc : vwCl[ci]? = some (C, T, N)) (k : Nat) (hk : k < N) (hlink : Cond.fieldLink own index ref (T k).2.1 (T k).2.2.1 ∈ Ts) (hsame : (T k).1 = ref) (hfin : (T k).2.2.2 = false) (hd : parseFieldDescriptor (T k).2.2.1 = some .int) {x : Int32} (hob2 : fm_ob K.2.2.2 (fm_wr σ g j x) q = (ci, fs.set k (.int x))) (hl : k < fs.length) (hdg : decode cc pc = .ok (.putfield index, 3))
    (kk : ∀ (H1 : Heap) (locs1 : List Loc), fm_H K (fm_wr σ g j x) A s H1 locs1 → W p l e R s m args below meth c H1 locs1 cells slots Q (F0 m (pc + 3) ls rest)) : W p l e R s m args below meth c H locs cells slots Q (F0 m pc ls (.int x :: .ref (K.2.2.2 q) :: rest)) := by
  have hset : (fm_W K σ).set (fm_pos q) (K.2.2.2 q, .inr (ci, fs.set k (.int x))) = fm_W K (fm_wr σ g j x) := by
    refine fm_set K σ (fm_wr σ g j x) hq (by simp [fm_ce, ht, hob2]) (fun k' hk1 hk2 => ?_)
    have e1 : (fm_wr σ g j x).1 k' = σ.1 k' := funext fun b => fm_wr_ne (by omega)
    have e4 : (fm_wr σ g j x).2 = σ.2 := rfl
    obtain ⟨rfl, rfl⟩ := hg
    simp only [fm_ce, fm_ob, e1, e4, if_neg hk2]
  exact va_put (fs := fs) (ci := ci) (v := .int x) (ty := .int) hx hb hts hin ty0 hty hnm hown hK hH.1 hH.2.1 hH.2.2 (fm_pos q) (by rw [fm_obj K σ hq ht, hob]) hc k hk (hts _ hlink) (fun x h => by rw [← hsame]; exact h) hfin hd rfl rfl hl hdg (fun H1 locs1 hP hD hS => kk H1 locs1 ⟨hset ▸ hP, hset ▸ hD, hS⟩)
end FMR
end
section
section FMC
theorem fm_ob_0 (ad : Nat → Nat) (σ : fm_S) : fm_ob ad σ 0 = (4, [.ref (ad 1), .ref (ad 2), .ref (ad 3), .ref (ad 4), .ref (ad 5), .ref (ad 6), .ref (ad 7), .ref (ad 8), .ref (ad 9), .ref (ad 18), .int (σ.1 60 0), .int (σ.1 60 1), .ref (ad 20), .ref (ad 22), .ref (ad 23), .ref (ad 24), .ref (ad 28), .ref (ad 30)]) := rfl
theorem fm_ob_18 (ad : Nat → Nat) (σ : fm_S) : fm_ob ad σ 18 = (1, [.ref (ad 19)]) := rfl
theorem fm_ob_20 (ad : Nat → Nat) (σ : fm_S) : fm_ob ad σ 20 = (1, [.ref (ad 21)]) := rfl
theorem fm_ob_24 (ad : Nat → Nat) (σ : fm_S) : fm_ob ad σ 24 = (2, [.ref (ad 25), .ref (ad 26), .ref (ad 27)]) := rfl
theorem fm_ob_28 (ad : Nat → Nat) (σ : fm_S) : fm_ob ad σ 28 = (0, [.ref (ad 29)]) := rfl
theorem fm_ob_30 (ad : Nat → Nat) (σ : fm_S) : fm_ob ad σ 30 = (3, [.ref (ad 31)]) := rfl
theorem fm_r4 {K : fm_K} {i : Int32} (h : ¬ (i < 0 ∨ 8 ≤ i.toNatClampNeg)) : fm_in K (9 + 1 + i.toNatClampNeg) ∧ fm_ty (9 + 1 + i.toNatClampNeg) = 1 ∧ fm_len (9 + 1 + i.toNatClampNeg) = 8 := by
  have h1 : i.toNatClampNeg < 8 := Nat.not_le.mp fun q => h (Or.inr q)
  have h2 : ∀ n, n < 8 → 9 + 1 + n < 43 ∧ fm_ty (9 + 1 + n) = 1 ∧ fm_len (9 + 1 + n) = 8 := by decide
  exact ⟨fm_inb (h2 _ h1).1, (h2 _ h1).2⟩
theorem fm_r5 {K : fm_K} {i : Int32} (h : ¬ (i < 0 ∨ 8 ≤ i.toNatClampNeg)) : fm_in K (31 + 1 + i.toNatClampNeg) ∧ fm_ty (31 + 1 + i.toNatClampNeg) = 3 ∧ fm_len (31 + 1 + i.toNatClampNeg) = 8 := by
  have h1 : i.toNatClampNeg < 8 := Nat.not_le.mp fun q => h (Or.inr q)
  have h2 : ∀ n, n < 8 → 31 + 1 + n < 43 ∧ fm_ty (31 + 1 + n) = 3 ∧ fm_len (31 + 1 + n) = 8 := by decide
  exact ⟨fm_inb (h2 _ h1).1, (h2 _ h1).2⟩
/-- links of nest mates: who, place, whom -/
def fm_nest : List (String × Nat × MethodName) := [(RX4, 218, yX1_clear), (RX4, 112, yX1_joins), (RX4, 119, yX1_join), (RX4, 128, yX1_pairCount), (RX4, 142, yX1_holds), (RX4, 139, yX1_groupOf), (RX4, 221, yX1_with), (RX4, 151, yX3_treesOf), (RX3, 22, yX1_without), (RX3, 36, yX1_holds), (RX3, 44, yX1_joins), (RX3, 49, yX1_degreeOf), (RX4, 186, yX2_rankOf), (RX2, 27, yX1_joins), (RX2, 36, yX1_with), (RX2, 50, yX1_holds), (RX2, 61, yX1_without), (RX4, 190, yX0_rankOf), (RX0, 21, yX1_with), (RX0, 27, yX1_joins), (RX4, 116, yX1_cut), (RX4, 132, yX1_degreeOf)]
def fm_strs : List (Nat × String) := [(198, "the two members are not linked"), (203, "there is no such member"), (208, "both members are the same"), (211, "a number is out of range"), (96, "there are 8 members")]
def fm_exs : List String := ["java/lang/IndexOutOfBoundsException", "java/lang/IllegalArgumentException", "java/lang/IllegalStateException", "java/util/NoSuchElementException"]
def fm_ncs : List (String × String) := [("java/lang/IllegalStateException", "java/lang/IllegalArgumentException"), ("java/lang/IllegalArgumentException", "java/lang/IndexOutOfBoundsException"), ("java/util/NoSuchElementException", "java/lang/IndexOutOfBoundsException")]
def fm_sup : List String := ["java/lang/RuntimeException", "java/lang/Exception", "java/lang/Throwable"]
/-- what of the start is carried everywhere -/
def fm_st (K : fm_K) (A : Nat → Prop) (U : State) (H : Heap) : Prop :=
  fm_Kn K U ∧ (∀ t ∈ fm_nest, va_Nw (.methodLinkNest t.1 t.2.1 t.2.2 "Formationist") U) ∧ vx_Zq Bundle.tN "UNASSIGNED_STACK" Bundle.steD A U H ∧ vx_Zq Bundle.tN "SUPPRESSED_SENTINEL" Bundle.listD A U H ∧ (∀ x ∈ fm_strs, ∃ a, vk_R RX4 x.1 x.2 a U) ∧ (∀ x ∈ fm_exs, va_Nw (.castable x x) U) ∧ (∀ x ∈ fm_ncs, va_Nc x.1 x.2 U) ∧ (∀ x ∈ fm_sup, va_Nw (.declares (Bundle.initS x)) U) ∧ (va_X K.1.2.1 K.1.2.2.1 K.1.2.2.2.1 U H ∧ K.1.2.1 < H.size ∧ ¬ A K.1.2.1)
theorem fm_st_at {K : fm_K} {A A' : Nat → Prop} {s : State} {H : Heap} {locs : List Loc} (hst : fm_st K A s s.heap) (hS : va_S A s.heap H locs) (hsub : ∀ q, A' q → A q) {U : State} (hU : U.heap = H) (hW : s.WarmedH U.vm) : fm_st K A' U U.heap := by
  obtain ⟨h1, h2, h3, h4, h5, h6, h7, h8, h9⟩ := hst
  refine ⟨va_K.moved hW.alike h1, fun t ht => va_Nw.warmM hW (h2 t ht), ?_, ?_, fun x hx => ?_, fun x hx => va_Nw.warmC hW (h6 x hx), fun x hx => va_Nc.moved hW.alike (h7 x hx), fun x hx => va_Nw.warmD hW (h8 x hx), ?_⟩
  · rw [hU]; exact vx_Zq.moved hW.alike ((h3.kept hS.2.1).narrow hsub)
  · rw [hU]; exact vx_Zq.moved hW.alike ((h4.kept hS.2.1).narrow hsub)
  · obtain ⟨a, ha⟩ := h5 x hx
    exact ⟨a, vk_R.warm hW ha⟩
  · rw [hU]
    exact ⟨(h9.1.kept (hS.2.1 _ h9.2.1 h9.2.2)).moved hW.alike, Nat.lt_of_lt_of_le h9.2.1 hS.1, fun q => h9.2.2 (hsub _ q)⟩
def fm_Pre (K : fm_K) (σ : fm_S) (sz : Nat) (U : State) : Prop := U.heap.size = sz ∧ va_P (K.1.1, K.2.1) vwCl (fm_W K σ) U.heap ∧ va_D (fun _ => True) (fm_W K σ) ∧ fm_st K (fm_A K sz) U U.heap
def fm_Post (K : fm_K) (A : Nat → Prop) (σ : fm_S) (t : State) : Prop := va_P (K.1.1, K.2.1) vwCl (fm_W K σ) t.heap ∧ va_D A (fm_W K σ) ∧ fm_Kn K t
theorem fm_blind {as : List Value} {K : fm_K} {σ : fm_S} {sz : Nat} : FrameBlind (va_Pc as (fm_Pre K σ sz)) := by
  intro a U g mk h
  obtain ⟨h0, h1, h2, h3, h4, h5, h6, h7, h8, h9, h10, h11, h12⟩ := h
  have hal : U.vm.Alike (U.calling g mk a).vm := Vm.Alike.refl U.vm
  exact ⟨h0, h1, h2, h3, va_K.moved hal h4, fun t ht => va_Nw.same rfl rfl (h5 t ht), vx_Zq.moved hal h6, vx_Zq.moved hal h7, fun x hx => by
    obtain ⟨a9, ha⟩ := h8 x hx
    exact ⟨a9, vk_R.same rfl ha⟩, fun x hx => va_Nw.same rfl rfl (h9 x hx), fun x hx => va_Nc.moved hal (h10 x hx), fun x hx => va_Nw.same rfl rfl (h11 x hx), h12.1.moved hal, h12.2⟩
theorem fm_sub {K : fm_K} {A : Nat → Prop} {s : State} {H : Heap} {locs : List Loc} (hA : ∀ q, fm_A K s.heap.size q → A q) (hS : va_S A s.heap H locs) : ∀ q, fm_A K H.size q → A q := by
  intro q h
  rcases h with h | h
  · exact hA q (Or.inl h)
  · exact hA q (Or.inr (Nat.le_trans hS.1 h))
theorem fm_pre {K : fm_K} {σ : fm_S} {A : Nat → Prop} {s : State} {H : Heap} {locs : List Loc} {as : List Value} (hst : fm_st K A s s.heap) (hA : ∀ q, fm_A K s.heap.size q → A q) (hH : fm_H K σ A s H locs) : ∀ U : State, U.heap = H → s.WarmedH U.vm → va_Pc as (fm_Pre K σ H.size) as.toArray U := by
  intro U hU hW
  have h := fm_st_at (A' := fm_A K H.size) hst hH.2.2 (fm_sub hA hH.2.2) hU hW
  exact ⟨rfl, by rw [hU], by rw [hU]; exact hH.1, hH.2.1.weaken (fun _ _ _ _ => trivial), h⟩
theorem fm_recv {K : fm_K} {σ : fm_S} {A : Nat → Prop} {s : State} {H : Heap} {locs : List Loc} (hst : fm_st K A s s.heap) (hH : fm_H K σ A s H locs) {q : Nat} (hq : fm_in K q) (ht : fm_ty q = 0) {ci : Nat} {fs : List Value} (hob : fm_ob K.2.2.2 σ q = (ci, fs)) {r : vw_C} (hc : vwCl[ci]? = some r) : ∃ cell : Cell, H[K.2.2.2 q]? = some cell ∧ cell.vm.isStatics = false ∧ s.vm.findClass r.1 = some cell.cls :=
  va_recv (fs := fs) (ci := ci) (q0 := fm_pos q) hst.1 hH.1 hc (by rw [fm_obj K σ hq ht, hob])
/-- contracts: called so, over this store, the answer and the store behind it -/
def fm_QI (K : fm_K) (r : Int32) (σ : fm_S) (sz : Nat) : Array Value → State → Outcome → State → Prop := va_Qi (fun (r' : Int32) (u : fm_S) => r' = r ∧ u = σ) (fun u t => fm_Post K (fm_A K sz) u t) (fm_A K sz)
def fm_QL (K : fm_K) (r : Int64) (σ : fm_S) (sz : Nat) : Array Value → State → Outcome → State → Prop := va_Ql (fun (r' : Int64) (u : fm_S) => r' = r ∧ u = σ) (fun u t => fm_Post K (fm_A K sz) u t) (fm_A K sz)
def fm_QV (K : fm_K) (σ : fm_S) (sz : Nat) : Array Value → State → Outcome → State → Prop := va_Qv (fun (u : fm_S) => u = σ) (fun u t => fm_Post K (fm_A K sz) u t) (fm_A K sz)
def fm_CI (l : Launch) (y : MethodName) (ws : List Cond) (rm : Room) (K : fm_K) (as : List Value) (σ : fm_S) (r : Int32) (σ' : fm_S) : Prop := ∀ sz, Met l y ws rm (va_Pc as (fm_Pre K σ sz)) (fm_QI K r σ' sz) 0 0 (fm_A K sz)
def fm_CL (l : Launch) (y : MethodName) (ws : List Cond) (rm : Room) (K : fm_K) (as : List Value) (σ : fm_S) (r : Int64) (σ' : fm_S) : Prop := ∀ sz, Met l y ws rm (va_Pc as (fm_Pre K σ sz)) (fm_QL K r σ' sz) 0 0 (fm_A K sz)
def fm_CV (l : Launch) (y : MethodName) (ws : List Cond) (rm : Room) (K : fm_K) (as : List Value) (σ : fm_S) (σ' : fm_S) : Prop := ∀ sz, Met l y ws rm (va_Pc as (fm_Pre K σ sz)) (fm_QV K σ' sz) 0 0 (fm_A K sz)
/-- .. of a method that may throw -/
abbrev fm_OI : Type := Except (String × fm_S) (Int32 × fm_S)
abbrev fm_OV : Type := Except (String × fm_S) fm_S
def fm_YI (K : fm_K) (o : fm_OI) (sz : Nat) : Array Value → State → Outcome → State → Prop := va_Qi (fun (r' : Int32) (u : fm_S) => o = .ok (r', u)) (fun u t => fm_Post K (fm_A K sz) u t) (fm_A K sz)
def fm_YV (K : fm_K) (o : fm_OV) (sz : Nat) : Array Value → State → Outcome → State → Prop := va_Qv (fun (u : fm_S) => o = .ok u) (fun u t => fm_Post K (fm_A K sz) u t) (fm_A K sz)
def fm_ZI (K : fm_K) (o : fm_OI) (sz : Nat) : String → State → State → Prop := vx_X (fun (_ : fm_S) => True) (fun E u t => o = .error (E, u) ∧ fm_Post K (fm_A K sz) u t) (fm_A K sz)
def fm_ZV (K : fm_K) (o : fm_OV) (sz : Nat) : String → State → State → Prop := vx_X (fun (_ : fm_S) => True) (fun E u t => o = .error (E, u) ∧ fm_Post K (fm_A K sz) u t) (fm_A K sz)
def fm_XI (l : Launch) (y : MethodName) (ws : List Cond) (rm : Room) (K : fm_K) (as : List Value) (σ : fm_S) (o : fm_OI) (n : Nat) : Prop := ∀ sz, vx_Met l y ws rm (va_Pc as (fm_Pre K σ sz)) (fm_YI K o sz) (fm_ZI K o sz) n (6 * n) (fm_A K sz)
def fm_XV (l : Launch) (y : MethodName) (ws : List Cond) (rm : Room) (K : fm_K) (as : List Value) (σ : fm_S) (o : fm_OV) (n : Nat) : Prop := ∀ sz, vx_Met l y ws rm (va_Pc as (fm_Pre K σ sz)) (fm_YV K o sz) (fm_ZV K o sz) n (6 * n) (fm_A K sz)
/-- a body's start -/
theorem fm_start {l : Launch} {y : MethodName} {ws ws' : List Cond} {rm : Room} {K : fm_K} {σ : fm_S} {sz : Nat} {as : List Value} {cc : ByteArray} {maxL : Nat} {ret : Option FieldType} {Qc : Nat → Array Value → State → Outcome → State → Prop} {mc ms : Nat}
    (hy : plainName y.cls = true) (hw : ws = Cond.code y cc maxL ret :: ws') (hn : (lg_sl as).length ≤ maxL)
    (body : ∀ (p : Program) (e : Env) (s : State) (m : MethodId) (args : Array Value) (below : List Frame) (meth : Method) (c : Code), CallFix p m c cc maxL s args ws y.cls → meth.sig.returnType = ret → meth.locks = false → fm_st K (fm_A K s.heap.size) s s.heap → fm_H K σ (fm_A K s.heap.size) s s.heap [] → ∀ ls, lv_has ls maxL (lv_args 0 as) →
      W p l e rm s m args below meth c s.heap [] 0 0 (MQ below (Qc s.heap.size) args s mc ms (fm_A K s.heap.size)) (F0 m 0 ls [])) : Met l y ws rm (va_Pc as (fm_Pre K σ sz)) (Qc sz) mc ms (fm_A K sz) := by
  refine Met.ofW (cc := cc) (maxL := maxL) (ret := ret) hy hw ?_
  intro p e s m args below meth c s₁ B hml hv
  obtain ⟨rfl, rfl, hP, hD0, hst⟩ := hv
  have hl := lv_entry as hn
  rw [lg_entry_eq]
  generalize (lg_sl as ++ List.replicate (maxL - (lg_sl as).length) Slot.unset).toArray = ls at hl ⊢
  exact body p e s m _ below meth c ⟨B.exec, B.bytes, hml, findClass_of_methodNamed B.named, atoms_spec (ws := ws) B.pre⟩ B.returns B.notSynchronized hst ⟨hP, ⟨hD0.1, fun k q hq => by
    obtain ⟨q9, h1, -, rfl⟩ := fm_getN K σ hq
    exact Or.inl ⟨q9, h1, rfl⟩⟩, va_S.rf⟩ ls hl
theorem fm_startX {l : Launch} {y : MethodName} {ws ws' : List Cond} {rm : Room} {K : fm_K} {σ : fm_S} {sz : Nat} {as : List Value} {cc : ByteArray} {maxL : Nat} {ret : Option FieldType} {Qc : Nat → Array Value → State → Outcome → State → Prop} {XC : Nat → String → State → State → Prop} {mc ms : Nat}
    (hy : plainName y.cls = true) (hw : ws = Cond.code y cc maxL ret :: ws') (hn : (lg_sl as).length ≤ maxL)
    (body : ∀ (p : Program) (e : Env) (s : State) (m : MethodId) (args : Array Value) (below : List Frame) (meth : Method) (c : Code), CallFix p m c cc maxL s args ws y.cls → meth.sig.returnType = ret → meth.locks = false → (∀ x ∈ c.exceptionTable.toList, False) → fm_st K (fm_A K s.heap.size) s s.heap → fm_H K σ (fm_A K s.heap.size) s s.heap [] → ∀ ls, lv_has ls maxL (lv_args 0 as) →
      W p l e rm s m args below meth c s.heap [] 0 0 (vx_MQ below (Qc s.heap.size) (XC s.heap.size) args s mc ms (fm_A K s.heap.size)) (F0 m 0 ls [])) : vx_Met l y ws rm (va_Pc as (fm_Pre K σ sz)) (Qc sz) (XC sz) mc ms (fm_A K sz) := by
  refine vx_ofW (cc := cc) (maxL := maxL) (ret := ret) hy hw ?_
  intro p e s m args below meth c s₁ B hml hex hv
  obtain ⟨rfl, rfl, hP, hD0, hst⟩ := hv
  have hl := lv_entry as hn
  rw [lg_entry_eq]
  generalize (lg_sl as ++ List.replicate (maxL - (lg_sl as).length) Slot.unset).toArray = ls at hl ⊢
  exact body p e s m _ below meth c ⟨B.exec, B.bytes, hml, findClass_of_methodNamed B.named, atoms_spec (ws := ws) B.pre⟩ B.returns B.notSynchronized hex hst ⟨hP, ⟨hD0.1, fun k q hq => by
    obtain ⟨q9, h1, -, rfl⟩ := fm_getN K σ hq
    exact Or.inl ⟨q9, h1, rfl⟩⟩, va_S.rf⟩ ls hl
section
variable {p : Program} {l : Launch} {e : Env} {R : Room} {s : State} {m : MethodId} {args : Array Value} {below : List Frame} {meth : Method} {c : Code} {H : Heap} {locs : List Loc} {cells slots : Nat} {Q : State → Prop}
variable {cc : ByteArray} {pc : Nat} {ls : Array Slot} {rest st0 : List Value} {K : fm_K} {σ σ' : fm_S} {A : Nat → Prop}
theorem fm_alen (hx : p.tables.exec = Jvm.exec) (hb : c.code = cc) (hK : fm_Kn K s) (hH : fm_H K σ A s H locs) (q : Nat) (hq : fm_in K q) (ht : fm_ty q = 1) (hdg : decode cc pc = .ok (.arraylength, 1))
    (kk : W p l e R s m args below meth c H locs cells slots Q (F0 m (pc + 1) ls (.int (Int32.ofNat (fm_len q)) :: rest))) : W p l e R s m args below meth c H locs cells slots Q (F0 m pc ls (.ref (K.2.2.2 q) :: rest)) :=
  va_alen (x := (fm_len q, .inl (σ.1 q))) (cA := K.2.2.1 0) (ty := .int) hx hb hK hH.1 (fm_pos q) 0 (by rw [fm_get _ _ hq]; simp [fm_ce, ht]) rfl rfl hdg kk
-- ends
theorem fm_iret {r : Int32} (hx : p.tables.exec = Jvm.exec) (hb : c.code = cc) (hr : meth.sig.returnType = some .int) (hlk : meth.locks = false) (hst : fm_st K (fm_A K s.heap.size) s s.heap) (hH : fm_H K σ (fm_A K s.heap.size) s H locs) (hdg : decode cc pc = .ok (.ireturn, 1)) :
    W p l e R s m args below meth c H locs 0 0 (MQ below (fm_QI K r σ s.heap.size) args s 0 0 (fm_A K s.heap.size)) (F0 m pc ls [.int r]) :=
  W.iret hx hb hr (fun t ht hW => ⟨⟨r, σ, rfl, ⟨rfl, rfl⟩, by rw [ht]; exact hH.1, hH.2.1, va_K.moved hW.alike hst.1⟩, hH.2.2.F ht⟩) hH.2.2.2.2 hdg hlk
theorem fm_zret {r : Int32} (hx : p.tables.exec = Jvm.exec) (hb : c.code = cc) (hr : meth.sig.returnType = some .boolean) (hn : vp_nar .boolean r = r) (hlk : meth.locks = false) (hst : fm_st K (fm_A K s.heap.size) s s.heap) (hH : fm_H K σ (fm_A K s.heap.size) s H locs) (hdg : decode cc pc = .ok (.ireturn, 1)) :
    W p l e R s m args below meth c H locs 0 0 (MQ below (fm_QI K r σ s.heap.size) args s 0 0 (fm_A K s.heap.size)) (F0 m pc ls [.int r]) :=
  W.zret (ty := .boolean) hx hb hr (congrArg Value.int hn) (fun t ht hW => ⟨⟨r, σ, rfl, ⟨rfl, rfl⟩, by rw [ht]; exact hH.1, hH.2.1, va_K.moved hW.alike hst.1⟩, hH.2.2.F ht⟩) hH.2.2.2.2 hdg hlk
theorem fm_lret {r : Int64} (hx : p.tables.exec = Jvm.exec) (hb : c.code = cc) (hr : meth.sig.returnType = some .long) (hlk : meth.locks = false) (hst : fm_st K (fm_A K s.heap.size) s s.heap) (hH : fm_H K σ (fm_A K s.heap.size) s H locs) (hdg : decode cc pc = .ok (.lreturn, 1)) :
    W p l e R s m args below meth c H locs 0 0 (MQ below (fm_QL K r σ s.heap.size) args s 0 0 (fm_A K s.heap.size)) (F0 m pc ls [.long r]) :=
  W.lret hx hb hr (fun t ht hW => ⟨⟨r, σ, rfl, ⟨rfl, rfl⟩, by rw [ht]; exact hH.1, hH.2.1, va_K.moved hW.alike hst.1⟩, hH.2.2.F ht⟩) hH.2.2.2.2 hdg hlk
theorem fm_vret (hx : p.tables.exec = Jvm.exec) (hb : c.code = cc) (hr : meth.sig.returnType = none) (hlk : meth.locks = false) (hst : fm_st K (fm_A K s.heap.size) s s.heap) (hH : fm_H K σ (fm_A K s.heap.size) s H locs) (hdg : decode cc pc = .ok (.return_, 1)) :
    W p l e R s m args below meth c H locs 0 0 (MQ below (fm_QV K σ s.heap.size) args s 0 0 (fm_A K s.heap.size)) (F0 m pc ls []) :=
  W.vret hx hb hr (fun t ht hW => ⟨⟨σ, rfl, rfl, by rw [ht]; exact hH.1, hH.2.1, va_K.moved hW.alike hst.1⟩, hH.2.2.F ht⟩) hH.2.2.2.2 hdg hlk
theorem fm_iretX {r : Int32} {o : fm_OI} {mc ms : Nat} (hx : p.tables.exec = Jvm.exec) (hb : c.code = cc) (hr : meth.sig.returnType = some .int) (hlk : meth.locks = false) (hst : fm_st K (fm_A K s.heap.size) s s.heap) (hH : fm_H K σ (fm_A K s.heap.size) s H locs) (ho : o = .ok (r, σ)) (hc : cells ≤ mc) (hs : slots ≤ ms) (hdg : decode cc pc = .ok (.ireturn, 1)) :
    W p l e R s m args below meth c H locs cells slots (vx_MQ below (fm_YI K o s.heap.size) (fm_ZI K o s.heap.size) args s mc ms (fm_A K s.heap.size)) (F0 m pc ls [.int r]) :=
  W.widen hc hs (vx_ret (W.iret hx hb hr (fun t ht hW => ⟨⟨r, σ, rfl, ho, by rw [ht]; exact hH.1, hH.2.1, va_K.moved hW.alike hst.1⟩, hH.2.2.F ht⟩) hH.2.2.2.2 hdg hlk))
theorem fm_zretX {r : Int32} {o : fm_OI} {mc ms : Nat} (hx : p.tables.exec = Jvm.exec) (hb : c.code = cc) (hr : meth.sig.returnType = some .boolean) (hn : vp_nar .boolean r = r) (hlk : meth.locks = false) (hst : fm_st K (fm_A K s.heap.size) s s.heap) (hH : fm_H K σ (fm_A K s.heap.size) s H locs) (ho : o = .ok (r, σ)) (hc : cells ≤ mc) (hs : slots ≤ ms) (hdg : decode cc pc = .ok (.ireturn, 1)) :
    W p l e R s m args below meth c H locs cells slots (vx_MQ below (fm_YI K o s.heap.size) (fm_ZI K o s.heap.size) args s mc ms (fm_A K s.heap.size)) (F0 m pc ls [.int r]) :=
  W.widen hc hs (vx_ret (W.zret (ty := .boolean) hx hb hr (congrArg Value.int hn) (fun t ht hW => ⟨⟨r, σ, rfl, ho, by rw [ht]; exact hH.1, hH.2.1, va_K.moved hW.alike hst.1⟩, hH.2.2.F ht⟩) hH.2.2.2.2 hdg hlk))
theorem fm_vretX {o : fm_OV} {mc ms : Nat} (hx : p.tables.exec = Jvm.exec) (hb : c.code = cc) (hr : meth.sig.returnType = none) (hlk : meth.locks = false) (hst : fm_st K (fm_A K s.heap.size) s s.heap) (hH : fm_H K σ (fm_A K s.heap.size) s H locs) (ho : o = .ok σ) (hc : cells ≤ mc) (hs : slots ≤ ms) (hdg : decode cc pc = .ok (.return_, 1)) :
    W p l e R s m args below meth c H locs cells slots (vx_MQ below (fm_YV K o s.heap.size) (fm_ZV K o s.heap.size) args s mc ms (fm_A K s.heap.size)) (F0 m pc ls []) :=
  W.widen hc hs (vx_ret (W.vret hx hb hr (fun t ht hW => ⟨⟨σ, rfl, ho, by rw [ht]; exact hH.1, hH.2.1, va_K.moved hW.alike hst.1⟩, hH.2.2.F ht⟩) hH.2.2.2.2 hdg hlk))
-- an exception goes on to the caller
theorem fm_outI {E : String} {ce : Cell} {q : Addr} {o : fm_OI} {mc ms : Nat} {Qc : Array Value → State → Outcome → State → Prop} (hout : ∀ x ∈ c.exceptionTable.toList, False) (hlk : meth.locks = false) (hst : fm_st K (fm_A K s.heap.size) s s.heap) (hH : fm_H K σ (fm_A K s.heap.size) s H locs) (ho : o = .error (E, σ)) (hce : H[q]? = some ce) (hcv : ce.vm = .none) (hcl : s.vm.findClass E = some ce.cls) (hc : cells ≤ mc) (hs : slots ≤ ms) :
    vx_W p l e R s m args below meth c H locs cells slots (vx_MQ below Qc (fm_ZI K o s.heap.size) args s mc ms (fm_A K s.heap.size)) (F0 m pc ls rest) q :=
  vx_out (fun x h => (hout x h).elim) hlk hce hcv hcl (fun t ht hvm => ⟨σ, trivial, ⟨ho, by rw [ht]; exact hH.1, hH.2.1, va_K.moved hvm hst.1⟩, hH.2.2.F ht⟩) hH.2.2.2.2 hc hs
theorem fm_outV {E : String} {ce : Cell} {q : Addr} {o : fm_OV} {mc ms : Nat} {Qc : Array Value → State → Outcome → State → Prop} (hout : ∀ x ∈ c.exceptionTable.toList, False) (hlk : meth.locks = false) (hst : fm_st K (fm_A K s.heap.size) s s.heap) (hH : fm_H K σ (fm_A K s.heap.size) s H locs) (ho : o = .error (E, σ)) (hce : H[q]? = some ce) (hcv : ce.vm = .none) (hcl : s.vm.findClass E = some ce.cls) (hc : cells ≤ mc) (hs : slots ≤ ms) :
    vx_W p l e R s m args below meth c H locs cells slots (vx_MQ below Qc (fm_ZV K o s.heap.size) args s mc ms (fm_A K s.heap.size)) (F0 m pc ls rest) q :=
  vx_out (fun x h => (hout x h).elim) hlk hce hcv hcl (fun t ht hvm => ⟨σ, trivial, ⟨ho, by rw [ht]; exact hH.1, hH.2.1, va_K.moved hvm hst.1⟩, hH.2.2.F ht⟩) hH.2.2.2.2 hc hs
/-- the store behind a throw: nothing but the new object -/
theorem fm_thrown (hst : fm_st K (fm_A K s.heap.size) s s.heap) (hH : fm_H K σ (fm_A K s.heap.size) s H locs) {t : State} (hvm : s.vm.Alike t.vm) (h1 : H.size ≤ t.heap.size) (h2 : ∀ q : Nat, q < H.size → t.heap[q]? = H[q]?) : fm_Post K (fm_A K s.heap.size) σ t ∧ va_F (fm_A K s.heap.size) s t :=
  ⟨⟨hH.1.kept (fun k q hk => h2 q.1 ((hH.1 k q hk).lt)), hH.2.1, va_K.moved hvm hst.1⟩, Nat.le_trans hH.2.2.1 h1, fun q hq hn => (h2 q (Nat.lt_of_lt_of_le hq hH.2.2.1)).trans (hH.2.2.2.1 q hq hn)⟩
abbrev fm_names : List String := ["java/lang/RuntimeException", "java/lang/Exception"]
abbrev fm_oddw (cls : String) : List Cond := [.castable cls cls, .declares (Bundle.initS "java/lang/RuntimeException"), .declares (Bundle.initS "java/lang/Exception"), .declares (Bundle.initS "java/lang/Throwable")]
theorem fm_hat {ic : Nat} {cls : String} (h1 : ∀ w ∈ (vx_atS RX4 ic cls fm_names).filter goodWord, w.before args s = true) (h2 : ∀ w ∈ (vx_atS RX4 ic cls fm_names).filter (fun w => !goodWord w), w ∈ fm_oddw cls) (h3 : va_Nw (.castable cls cls) s) (h4 : ∀ x ∈ fm_sup, va_Nw (.declares (Bundle.initS x)) s) : ∀ w ∈ vx_atS RX4 ic cls fm_names, w.before args s = true :=
  vx_hat (B := fm_oddw cls) h1 h2 (vx_c (va_Nw.use rfl h3) (vx_c (va_Nw.use rfl (h4 _ (List.mem_of_getElem? (i := 0) rfl))) (vx_c (va_Nw.use rfl (h4 _ (List.mem_of_getElem? (i := 1) rfl))) (vx_c (va_Nw.use rfl (h4 _ (List.mem_of_getElem? (i := 2) rfl))) vx_n))))
-- calls
theorem fm_ci {r : Int32} {a : Array Value} (hr : va_Run p l e R s m args below meth c H locs cells slots 0 0 (F0 m pc ls st0) rest (fm_QI K r σ' H.size a) (fm_A K H.size)) (hA : ∀ q, fm_A K s.heap.size q → A q) (hH : fm_H K σ A s H locs)
    (kk : ∀ (H1 : Heap) (locs1 : List Loc), fm_H K σ' A s H1 locs1 → W p l e R s m args below meth c H1 locs1 cells slots Q (F0 m (pc + 3) ls (.int r :: rest))) : W p l e R s m args below meth c H locs cells slots Q (F0 m pc ls st0) :=
  va_calli hr hH.2.2 (fun q _ h => fm_sub hA hH.2.2 q h) (fm_sub hA hH.2.2) (fun r' u t H1 locs1 ht _ hp hB _ _ hS => by
    obtain ⟨rfl, rfl⟩ := hp
    exact kk H1 locs1 ⟨by rw [← ht]; exact hB.1, hB.2.1.weaken (fun _ q _ h => fm_sub hA hH.2.2 q.1 h), hS⟩)
theorem fm_cl {r : Int64} {a : Array Value} (hr : va_Run p l e R s m args below meth c H locs cells slots 0 0 (F0 m pc ls st0) rest (fm_QL K r σ' H.size a) (fm_A K H.size)) (hA : ∀ q, fm_A K s.heap.size q → A q) (hH : fm_H K σ A s H locs)
    (kk : ∀ (H1 : Heap) (locs1 : List Loc), fm_H K σ' A s H1 locs1 → W p l e R s m args below meth c H1 locs1 cells slots Q (F0 m (pc + 3) ls (.long r :: rest))) : W p l e R s m args below meth c H locs cells slots Q (F0 m pc ls st0) :=
  va_calll hr hH.2.2 (fun q _ h => fm_sub hA hH.2.2 q h) (fm_sub hA hH.2.2) (fun r' u t H1 locs1 ht _ hp hB _ _ hS => by
    obtain ⟨rfl, rfl⟩ := hp
    exact kk H1 locs1 ⟨by rw [← ht]; exact hB.1, hB.2.1.weaken (fun _ q _ h => fm_sub hA hH.2.2 q.1 h), hS⟩)
theorem fm_cv {a : Array Value} (hr : va_Run p l e R s m args below meth c H locs cells slots 0 0 (F0 m pc ls st0) rest (fm_QV K σ' H.size a) (fm_A K H.size)) (hA : ∀ q, fm_A K s.heap.size q → A q) (hH : fm_H K σ A s H locs)
    (kk : ∀ (H1 : Heap) (locs1 : List Loc), fm_H K σ' A s H1 locs1 → W p l e R s m args below meth c H1 locs1 cells slots Q (F0 m (pc + 3) ls rest)) : W p l e R s m args below meth c H locs cells slots Q (F0 m pc ls st0) :=
  va_callv hr hH.2.2 (fun q _ h => fm_sub hA hH.2.2 q h) (fm_sub hA hH.2.2) (fun u t H1 locs1 ht _ hp hB _ _ hS => by
    obtain rfl := hp
    exact kk H1 locs1 ⟨by rw [← ht]; exact hB.1, hB.2.1.weaken (fun _ q _ h => fm_sub hA hH.2.2 q.1 h), hS⟩)
theorem fm_cxi {a : Array Value} {o : fm_OI} {mc ms : Nat} (hr : vx_Run p l e R s m args below meth c H locs cells slots mc ms (F0 m pc ls st0) rest (fm_YI K o H.size a) (fm_ZI K o H.size) (fm_A K H.size)) (hA : ∀ q, fm_A K s.heap.size q → A q) (hH : fm_H K σ A s H locs)
    (kx : ∀ (E : String) (σ1 : fm_S) (ce : Cell) (q9 : Addr) (H1 : Heap) (locs1 : List Loc), o = .error (E, σ1) → fm_H K σ1 A s H1 locs1 → H1[q9]? = some ce → ce.vm = .none → s.vm.findClass E = some ce.cls → vx_W p l e R s m args below meth c H1 locs1 (cells + mc) (slots + ms) Q (F0 m pc ls rest) q9)
    (kk : ∀ (r : Int32) (σ1 : fm_S) (H1 : Heap) (locs1 : List Loc), o = .ok (r, σ1) → fm_H K σ1 A s H1 locs1 → W p l e R s m args below meth c H1 locs1 (cells + mc) (slots + ms) Q (F0 m (pc + 3) ls (.int r :: rest))) : W p l e R s m args below meth c H locs cells slots Q (F0 m pc ls st0) :=
  vx_calli hr hH.2.2 (fun q _ h => fm_sub hA hH.2.2 q h) (fm_sub hA hH.2.2) (fun q _ h => fm_sub hA hH.2.2 q h)
    (fun E ce q9 u t H1 locs1 ht _ _ hB _ _ hS hce hcv hcl => kx E u ce q9 H1 locs1 hB.1 ⟨by rw [← ht]; exact hB.2.1, hB.2.2.1.weaken (fun _ q _ h => fm_sub hA hH.2.2 q.1 h), hS⟩ hce hcv hcl)
    (fun r' u t H1 locs1 ht _ hp hB _ _ hS => kk r' u H1 locs1 hp ⟨by rw [← ht]; exact hB.1, hB.2.1.weaken (fun _ q _ h => fm_sub hA hH.2.2 q.1 h), hS⟩)
theorem fm_cxv {a : Array Value} {o : fm_OV} {mc ms : Nat} (hr : vx_Run p l e R s m args below meth c H locs cells slots mc ms (F0 m pc ls st0) rest (fm_YV K o H.size a) (fm_ZV K o H.size) (fm_A K H.size)) (hA : ∀ q, fm_A K s.heap.size q → A q) (hH : fm_H K σ A s H locs)
    (kx : ∀ (E : String) (σ1 : fm_S) (ce : Cell) (q9 : Addr) (H1 : Heap) (locs1 : List Loc), o = .error (E, σ1) → fm_H K σ1 A s H1 locs1 → H1[q9]? = some ce → ce.vm = .none → s.vm.findClass E = some ce.cls → vx_W p l e R s m args below meth c H1 locs1 (cells + mc) (slots + ms) Q (F0 m pc ls rest) q9)
    (kk : ∀ (σ1 : fm_S) (H1 : Heap) (locs1 : List Loc), o = .ok σ1 → fm_H K σ1 A s H1 locs1 → W p l e R s m args below meth c H1 locs1 (cells + mc) (slots + ms) Q (F0 m (pc + 3) ls rest)) : W p l e R s m args below meth c H locs cells slots Q (F0 m pc ls st0) :=
  vx_callv hr hH.2.2 (fun q _ h => fm_sub hA hH.2.2 q h) (fm_sub hA hH.2.2) (fun q _ h => fm_sub hA hH.2.2 q h)
    (fun E ce q9 u t H1 locs1 ht _ _ hB _ _ hS hce hcv hcl => kx E u ce q9 H1 locs1 hB.1 ⟨by rw [← ht]; exact hB.2.1, hB.2.2.1.weaken (fun _ q _ h => fm_sub hA hH.2.2 q.1 h), hS⟩ hce hcv hcl)
    (fun u t H1 locs1 ht _ hp hB _ _ hS => kk u H1 locs1 hp ⟨by rw [← ht]; exact hB.1, hB.2.1.weaken (fun _ q _ h => fm_sub hA hH.2.2 q.1 h), hS⟩)
end
-- a mirror's rows
theorem mi_pos {α : Type} {c : Prop} [Decidable c] {a b : Option α} {r : α} (hc : c) (h : (if c then a else b) = some r) : a = some r := by rwa [if_pos hc] at h
theorem mi_neg {α : Type} {c : Prop} [Decidable c] {a b : Option α} {r : α} (hc : ¬ c) (h : (if c then a else b) = some r) : b = some r := by rwa [if_neg hc] at h
theorem mi_chk {α : Type} {c : Prop} [Decidable c] {b : Option α} {r : α} (h : (if c then none else b) = some r) : ¬ c ∧ b = some r := by
  by_cases hc : c
  · rw [if_pos hc] at h; cases h
  · rw [if_neg hc] at h; exact ⟨hc, h⟩
def mb1 {α γ : Type} (o : Option α) (f : α → Option γ) : Option γ := match o with | none => none | some a => f a
def mb2 {α β γ : Type} (o : Option (α × β)) (f : α → β → Option γ) : Option γ := match o with | none => none | some a => f a.1 a.2
def mb3 {α β δ γ : Type} (o : Option (α × β × δ)) (f : α → β → δ → Option γ) : Option γ := match o with | none => none | some a => f a.1 a.2.1 a.2.2
def mb4 {α β δ ε γ : Type} (o : Option (α × β × δ × ε)) (f : α → β → δ → ε → Option γ) : Option γ := match o with | none => none | some a => f a.1 a.2.1 a.2.2.1 a.2.2.2
def mb5 {α β δ ε ζ γ : Type} (o : Option (α × β × δ × ε × ζ)) (f : α → β → δ → ε → ζ → Option γ) : Option γ := match o with | none => none | some a => f a.1 a.2.1 a.2.2.1 a.2.2.2.1 a.2.2.2.2
theorem mi_b1 {α γ : Type} {o : Option α} {f : α → Option γ} {r : γ} (h : mb1 o f = some r) : ∃ a, o = some a ∧ f a = some r := by
  cases o with
  | none => cases h
  | some a => exact ⟨a, rfl, h⟩
theorem mi_b2 {α β γ : Type} {o : Option (α × β)} {f : α → β → Option γ} {r : γ} (h : mb2 o f = some r) : ∃ a b, o = some (a, b) ∧ f a b = some r := by
  cases o with
  | none => cases h
  | some a => exact ⟨a.1, a.2, rfl, h⟩
theorem mi_b3 {α β δ γ : Type} {o : Option (α × β × δ)} {f : α → β → δ → Option γ} {r : γ} (h : mb3 o f = some r) : ∃ a b d, o = some (a, b, d) ∧ f a b d = some r := by
  cases o with
  | none => cases h
  | some a => exact ⟨a.1, a.2.1, a.2.2, rfl, h⟩
theorem mi_b4 {α β δ ε γ : Type} {o : Option (α × β × δ × ε)} {f : α → β → δ → ε → Option γ} {r : γ} (h : mb4 o f = some r) : ∃ a b d e, o = some (a, b, d, e) ∧ f a b d e = some r := by
  cases o with
  | none => cases h
  | some a => exact ⟨a.1, a.2.1, a.2.2.1, a.2.2.2, rfl, h⟩
theorem mi_b5 {α β δ ε ζ γ : Type} {o : Option (α × β × δ × ε × ζ)} {f : α → β → δ → ε → ζ → Option γ} {r : γ} (h : mb5 o f = some r) : ∃ a b d e z, o = some (a, b, d, e, z) ∧ f a b d e z = some r := by
  cases o with
  | none => cases h
  | some a => exact ⟨a.1, a.2.1, a.2.2.1, a.2.2.2.1, a.2.2.2.2, rfl, h⟩
/-- a loop's end: go on, or leave the method with an answer -/
def ml1 {α ρ γ : Type} (o : Option (Except ρ α)) (f : α → Option γ) (g : ρ → Option γ) : Option γ := match o with | none => none | some (.error r) => g r | some (.ok a) => f a
theorem mi_l1 {α ρ γ : Type} {o : Option (Except ρ α)} {f : α → Option γ} {g : ρ → Option γ} {r : γ} (h : ml1 o f g = some r) : ∃ x, o = some x ∧ (∀ a, x = .ok a → f a = some r) ∧ (∀ a, x = .error a → g a = some r) := by
  cases o with
  | none => cases h
  | some x =>
    refine ⟨x, rfl, ?_, ?_⟩
    · intro a ha; subst ha; exact h
    · intro a ha; subst ha; exact h
def ml2 {α β ρ γ : Type} (o : Option (Except ρ (α × β))) (f : α → β → Option γ) (g : ρ → Option γ) : Option γ := match o with | none => none | some (.error r) => g r | some (.ok a) => f a.1 a.2
theorem mi_l2 {α β ρ γ : Type} {o : Option (Except ρ (α × β))} {f : α → β → Option γ} {g : ρ → Option γ} {r : γ} (h : ml2 o f g = some r) : ∃ x, o = some x ∧ (∀ a b, x = .ok (a, b) → f a b = some r) ∧ (∀ a, x = .error a → g a = some r) := by
  cases o with
  | none => cases h
  | some x =>
    refine ⟨x, rfl, ?_, ?_⟩
    · intro a b ha; subst ha; exact h
    · intro a ha; subst ha; exact h
def ml3 {α β δ ρ γ : Type} (o : Option (Except ρ (α × β × δ))) (f : α → β → δ → Option γ) (g : ρ → Option γ) : Option γ := match o with | none => none | some (.error r) => g r | some (.ok a) => f a.1 a.2.1 a.2.2
theorem mi_l3 {α β δ ρ γ : Type} {o : Option (Except ρ (α × β × δ))} {f : α → β → δ → Option γ} {g : ρ → Option γ} {r : γ} (h : ml3 o f g = some r) : ∃ x, o = some x ∧ (∀ a b d, x = .ok (a, b, d) → f a b d = some r) ∧ (∀ a, x = .error a → g a = some r) := by
  cases o with
  | none => cases h
  | some x =>
    refine ⟨x, rfl, ?_, ?_⟩
    · intro a b d ha; subst ha; exact h
    · intro a ha; subst ha; exact h
/-- a call that may throw: the exception goes on -/
def mx {ε α γ : Type} (o : Option (Except ε α)) (f : α → Option (Except ε γ)) : Option (Except ε γ) := match o with | none => none | some (.error x) => some (.error x) | some (.ok a) => f a
theorem mi_x {ε α γ : Type} {o : Option (Except ε α)} {f : α → Option (Except ε γ)} {r : Except ε γ} (h : mx o f = some r) : ∃ x, o = some x ∧ (∀ a, x = .ok a → f a = some r) ∧ (∀ a, x = .error a → r = .error a) := by
  cases o with
  | none => cases h
  | some x =>
    refine ⟨x, rfl, ?_, ?_⟩
    · intro a ha; subst ha; exact h
    · intro a ha; subst ha; exact (Option.some.inj h).symm
theorem fm_bad205 : ∀ w ∈ (vx_atS RX4 205 "java/lang/IndexOutOfBoundsException" fm_names).filter (fun w => !goodWord w), w ∈ fm_oddw "java/lang/IndexOutOfBoundsException" := by decide +kernel
theorem fm_bad210 : ∀ w ∈ (vx_atS RX4 210 "java/lang/IllegalArgumentException" fm_names).filter (fun w => !goodWord w), w ∈ fm_oddw "java/lang/IllegalArgumentException" := by decide +kernel
theorem fm_bad98 : ∀ w ∈ (vx_atS RX4 98 "java/lang/IllegalStateException" fm_names).filter (fun w => !goodWord w), w ∈ fm_oddw "java/lang/IllegalStateException" := by decide +kernel
theorem fm_bad200 : ∀ w ∈ fx_at200.filter (fun w => !goodWord w), w ∈ fm_oddw "java/util/NoSuchElementException" := by decide +kernel
/-- more rounds than any loop here needs -/
def fF : Nat := 1000
end FMC
end
