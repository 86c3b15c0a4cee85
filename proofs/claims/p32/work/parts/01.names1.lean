-- ===== PART A: goes FIRST, ahead of the names: the tables' words, and 'selects' of the private methods out of them =====
/-- a private method of a class that the tables say can be made, by its rows of tables_1 -/
def lw_okq (q : MethodName × Nat) : Prop := (q.1.cls ≠ "java/lang/invoke/MethodHandle" ∧ q.1.cls ≠ "java/lang/invoke/VarHandle") ∧ Cond.instantiable q.1.cls q.2 ∈ tables_1 ∧ Cond.privateMethod q.1 ∈ tables_1 ∧ Cond.instanceMethod q.1 ∈ tables_1
theorem lw_p0 : lw_okq (⟨"java/lang/Throwable", "fillInStackTrace", "(I)Ljava/lang/Throwable;"⟩, 6) := ⟨⟨by decide +kernel, by decide +kernel⟩, List.mem_of_getElem? (i := 194) (by decide +kernel), List.mem_of_getElem? (i := 192) (by decide +kernel), List.mem_of_getElem? (i := 193) (by decide +kernel)⟩
theorem lw_p1 : lw_okq (⟨"Formationist", "drawNet", "()V"⟩, 18) := ⟨⟨by decide +kernel, by decide +kernel⟩, List.mem_of_getElem? (i := 26) (by decide +kernel), List.mem_of_getElem? (i := 224) (by decide +kernel), List.mem_of_getElem? (i := 225) (by decide +kernel)⟩
theorem lw_p2 : lw_okq (⟨"Formationist$Net", "clear", "()V"⟩, 1) := ⟨⟨by decide +kernel, by decide +kernel⟩, List.mem_of_getElem? (i := 36) (by decide +kernel), List.mem_of_getElem? (i := 228) (by decide +kernel), List.mem_of_getElem? (i := 229) (by decide +kernel)⟩
theorem lw_p3 : lw_okq (⟨"Formationist", "hears", "(II)Z"⟩, 18) := ⟨⟨by decide +kernel, by decide +kernel⟩, List.mem_of_getElem? (i := 26) (by decide +kernel), List.mem_of_getElem? (i := 233) (by decide +kernel), List.mem_of_getElem? (i := 234) (by decide +kernel)⟩
theorem lw_p4 : lw_okq (⟨"Formationist$Net", "joins", "(II)Z"⟩, 1) := ⟨⟨by decide +kernel, by decide +kernel⟩, List.mem_of_getElem? (i := 36) (by decide +kernel), List.mem_of_getElem? (i := 237) (by decide +kernel), List.mem_of_getElem? (i := 238) (by decide +kernel)⟩
theorem lw_p5 : lw_okq (⟨"Formationist", "squareBetween", "(II)I"⟩, 18) := ⟨⟨by decide +kernel, by decide +kernel⟩, List.mem_of_getElem? (i := 26) (by decide +kernel), List.mem_of_getElem? (i := 244) (by decide +kernel), List.mem_of_getElem? (i := 245) (by decide +kernel)⟩
theorem lw_p6 : lw_okq (⟨"Formationist$Net", "join", "(II)V"⟩, 1) := ⟨⟨by decide +kernel, by decide +kernel⟩, List.mem_of_getElem? (i := 36) (by decide +kernel), List.mem_of_getElem? (i := 248) (by decide +kernel), List.mem_of_getElem? (i := 249) (by decide +kernel)⟩
theorem lw_p7 : lw_okq (⟨"Formationist", "exchangeEstimates", "()V"⟩, 18) := ⟨⟨by decide +kernel, by decide +kernel⟩, List.mem_of_getElem? (i := 26) (by decide +kernel), List.mem_of_getElem? (i := 255) (by decide +kernel), List.mem_of_getElem? (i := 256) (by decide +kernel)⟩
theorem lw_p8 : lw_okq (⟨"Formationist", "flowBetween", "(II)I"⟩, 18) := ⟨⟨by decide +kernel, by decide +kernel⟩, List.mem_of_getElem? (i := 26) (by decide +kernel), List.mem_of_getElem? (i := 259) (by decide +kernel), List.mem_of_getElem? (i := 260) (by decide +kernel)⟩
theorem lw_p9 : lw_okq (⟨"Formationist$Net", "degreeOf", "(I)I"⟩, 1) := ⟨⟨by decide +kernel, by decide +kernel⟩, List.mem_of_getElem? (i := 36) (by decide +kernel), List.mem_of_getElem? (i := 263) (by decide +kernel), List.mem_of_getElem? (i := 264) (by decide +kernel)⟩
theorem lw_p10 : lw_okq (⟨"Formationist", "addChanges", "([I[I)V"⟩, 18) := ⟨⟨by decide +kernel, by decide +kernel⟩, List.mem_of_getElem? (i := 26) (by decide +kernel), List.mem_of_getElem? (i := 276) (by decide +kernel), List.mem_of_getElem? (i := 277) (by decide +kernel)⟩
theorem lw_p11 : lw_okq (⟨"Formationist", "spanOfEstimates", "()I"⟩, 18) := ⟨⟨by decide +kernel, by decide +kernel⟩, List.mem_of_getElem? (i := 26) (by decide +kernel), List.mem_of_getElem? (i := 280) (by decide +kernel), List.mem_of_getElem? (i := 281) (by decide +kernel)⟩
theorem lw_p12 : lw_okq (⟨"Formationist", "handHalves", "()I"⟩, 18) := ⟨⟨by decide +kernel, by decide +kernel⟩, List.mem_of_getElem? (i := 26) (by decide +kernel), List.mem_of_getElem? (i := 291) (by decide +kernel), List.mem_of_getElem? (i := 292) (by decide +kernel)⟩
theorem lw_p13 : lw_okq (⟨"Formationist", "nextReceiver", "(I)I"⟩, 18) := ⟨⟨by decide +kernel, by decide +kernel⟩, List.mem_of_getElem? (i := 26) (by decide +kernel), List.mem_of_getElem? (i := 295) (by decide +kernel), List.mem_of_getElem? (i := 296) (by decide +kernel)⟩
theorem lw_p14 : lw_okq (⟨"Formationist", "upSet", "()I"⟩, 18) := ⟨⟨by decide +kernel, by decide +kernel⟩, List.mem_of_getElem? (i := 26) (by decide +kernel), List.mem_of_getElem? (i := 306) (by decide +kernel), List.mem_of_getElem? (i := 307) (by decide +kernel)⟩
theorem lw_p15 : lw_okq (⟨"Formationist$TreeMatrix", "treesOf", "(LFormationist$Net;I)J"⟩, 1) := ⟨⟨by decide +kernel, by decide +kernel⟩, List.mem_of_getElem? (i := 74) (by decide +kernel), List.mem_of_getElem? (i := 311) (by decide +kernel), List.mem_of_getElem? (i := 312) (by decide +kernel)⟩
def lw_privs_1 : List (MethodName × Nat) := [(⟨"java/lang/Throwable", "fillInStackTrace", "(I)Ljava/lang/Throwable;"⟩, 6), (⟨"Formationist", "drawNet", "()V"⟩, 18), (⟨"Formationist$Net", "clear", "()V"⟩, 1), (⟨"Formationist", "hears", "(II)Z"⟩, 18), (⟨"Formationist$Net", "joins", "(II)Z"⟩, 1), (⟨"Formationist", "squareBetween", "(II)I"⟩, 18), (⟨"Formationist$Net", "join", "(II)V"⟩, 1), (⟨"Formationist", "exchangeEstimates", "()V"⟩, 18), (⟨"Formationist", "flowBetween", "(II)I"⟩, 18), (⟨"Formationist$Net", "degreeOf", "(I)I"⟩, 1), (⟨"Formationist", "addChanges", "([I[I)V"⟩, 18), (⟨"Formationist", "spanOfEstimates", "()I"⟩, 18), (⟨"Formationist", "handHalves", "()I"⟩, 18), (⟨"Formationist", "nextReceiver", "(I)I"⟩, 18), (⟨"Formationist", "upSet", "()I"⟩, 18), (⟨"Formationist$TreeMatrix", "treesOf", "(LFormationist$Net;I)J"⟩, 1)]
theorem lw_r1 : ∀ q ∈ lw_privs_1, lw_okq q := List.forall_mem_cons.mpr ⟨lw_p0, List.forall_mem_cons.mpr ⟨lw_p1, List.forall_mem_cons.mpr ⟨lw_p2, List.forall_mem_cons.mpr ⟨lw_p3, List.forall_mem_cons.mpr ⟨lw_p4, List.forall_mem_cons.mpr ⟨lw_p5, List.forall_mem_cons.mpr ⟨lw_p6, List.forall_mem_cons.mpr ⟨lw_p7, List.forall_mem_cons.mpr ⟨lw_p8, List.forall_mem_cons.mpr ⟨lw_p9, List.forall_mem_cons.mpr ⟨lw_p10, List.forall_mem_cons.mpr ⟨lw_p11, List.forall_mem_cons.mpr ⟨lw_p12, List.forall_mem_cons.mpr ⟨lw_p13, List.forall_mem_cons.mpr ⟨lw_p14, List.forall_mem_cons.mpr ⟨lw_p15, fun _ h => absurd h List.not_mem_nil⟩⟩⟩⟩⟩⟩⟩⟩⟩⟩⟩⟩⟩⟩⟩⟩
theorem lw_p16 : lw_okq (⟨"Formationist$TreeMatrix", "fill", "(LFormationist$Net;I)I"⟩, 1) := ⟨⟨by decide +kernel, by decide +kernel⟩, List.mem_of_getElem? (i := 74) (by decide +kernel), List.mem_of_getElem? (i := 322) (by decide +kernel), List.mem_of_getElem? (i := 323) (by decide +kernel)⟩
theorem lw_p17 : lw_okq (⟨"Formationist$TreeMatrix", "determinant", "(I)J"⟩, 1) := ⟨⟨by decide +kernel, by decide +kernel⟩, List.mem_of_getElem? (i := 74) (by decide +kernel), List.mem_of_getElem? (i := 333) (by decide +kernel), List.mem_of_getElem? (i := 334) (by decide +kernel)⟩
theorem lw_p18 : lw_okq (⟨"Formationist", "countGroups", "()I"⟩, 18) := ⟨⟨by decide +kernel, by decide +kernel⟩, List.mem_of_getElem? (i := 26) (by decide +kernel), List.mem_of_getElem? (i := 342) (by decide +kernel), List.mem_of_getElem? (i := 343) (by decide +kernel)⟩
theorem lw_p19 : lw_okq (⟨"Formationist$Net", "groupOf", "(I)I"⟩, 1) := ⟨⟨by decide +kernel, by decide +kernel⟩, List.mem_of_getElem? (i := 36) (by decide +kernel), List.mem_of_getElem? (i := 347) (by decide +kernel), List.mem_of_getElem? (i := 348) (by decide +kernel)⟩
theorem lw_p20 : lw_okq (⟨"Formationist$PebbleGame", "rankOf", "(LFormationist$Net;)I"⟩, 3) := ⟨⟨by decide +kernel, by decide +kernel⟩, List.mem_of_getElem? (i := 48) (by decide +kernel), List.mem_of_getElem? (i := 351) (by decide +kernel), List.mem_of_getElem? (i := 352) (by decide +kernel)⟩
theorem lw_p21 : lw_okq (⟨"Formationist$PebbleGame", "gatherPebbles", "(II)Z"⟩, 3) := ⟨⟨by decide +kernel, by decide +kernel⟩, List.mem_of_getElem? (i := 48) (by decide +kernel), List.mem_of_getElem? (i := 357) (by decide +kernel), List.mem_of_getElem? (i := 358) (by decide +kernel)⟩
theorem lw_p22 : lw_okq (⟨"Formationist$PebbleGame", "fetchPebble", "(II)Z"⟩, 3) := ⟨⟨by decide +kernel, by decide +kernel⟩, List.mem_of_getElem? (i := 48) (by decide +kernel), List.mem_of_getElem? (i := 361) (by decide +kernel), List.mem_of_getElem? (i := 362) (by decide +kernel)⟩
theorem lw_p23 : lw_okq (⟨"Formationist$PebbleGame", "findPebble", "(II)I"⟩, 3) := ⟨⟨by decide +kernel, by decide +kernel⟩, List.mem_of_getElem? (i := 48) (by decide +kernel), List.mem_of_getElem? (i := 365) (by decide +kernel), List.mem_of_getElem? (i := 366) (by decide +kernel)⟩
theorem lw_p24 : lw_okq (⟨"Formationist$PebbleGame", "noteWay", "(II)V"⟩, 3) := ⟨⟨by decide +kernel, by decide +kernel⟩, List.mem_of_getElem? (i := 48) (by decide +kernel), List.mem_of_getElem? (i := 371) (by decide +kernel), List.mem_of_getElem? (i := 372) (by decide +kernel)⟩
theorem lw_p25 : lw_okq (⟨"Formationist$PebbleGame", "holderAmong", "(I)I"⟩, 3) := ⟨⟨by decide +kernel, by decide +kernel⟩, List.mem_of_getElem? (i := 48) (by decide +kernel), List.mem_of_getElem? (i := 375) (by decide +kernel), List.mem_of_getElem? (i := 376) (by decide +kernel)⟩
theorem lw_p26 : lw_okq (⟨"Formationist$PebbleGame", "turnArcs", "(I)V"⟩, 3) := ⟨⟨by decide +kernel, by decide +kernel⟩, List.mem_of_getElem? (i := 48) (by decide +kernel), List.mem_of_getElem? (i := 379) (by decide +kernel), List.mem_of_getElem? (i := 380) (by decide +kernel)⟩
theorem lw_p27 : lw_okq (⟨"Formationist", "requireMember", "(I)V"⟩, 18) := ⟨⟨by decide +kernel, by decide +kernel⟩, List.mem_of_getElem? (i := 26) (by decide +kernel), List.mem_of_getElem? (i := 420) (by decide +kernel), List.mem_of_getElem? (i := 421) (by decide +kernel)⟩
theorem lw_p28 : lw_okq (⟨"Formationist", "requireUnlike", "(II)V"⟩, 18) := ⟨⟨by decide +kernel, by decide +kernel⟩, List.mem_of_getElem? (i := 26) (by decide +kernel), List.mem_of_getElem? (i := 459) (by decide +kernel), List.mem_of_getElem? (i := 460) (by decide +kernel)⟩
theorem lw_p29 : lw_okq (⟨"Formationist$Net", "cut", "(II)V"⟩, 1) := ⟨⟨by decide +kernel, by decide +kernel⟩, List.mem_of_getElem? (i := 36) (by decide +kernel), List.mem_of_getElem? (i := 464) (by decide +kernel), List.mem_of_getElem? (i := 465) (by decide +kernel)⟩
theorem lw_p30 : lw_okq (⟨"Formationist", "stepTogether", "()V"⟩, 18) := ⟨⟨by decide +kernel, by decide +kernel⟩, List.mem_of_getElem? (i := 26) (by decide +kernel), List.mem_of_getElem? (i := 517) (by decide +kernel), List.mem_of_getElem? (i := 518) (by decide +kernel)⟩
theorem lw_p31 : lw_okq (⟨"Formationist", "stepOf", "(I[I)I"⟩, 18) := ⟨⟨by decide +kernel, by decide +kernel⟩, List.mem_of_getElem? (i := 26) (by decide +kernel), List.mem_of_getElem? (i := 521) (by decide +kernel), List.mem_of_getElem? (i := 522) (by decide +kernel)⟩
def lw_privs_2 : List (MethodName × Nat) := [(⟨"Formationist$TreeMatrix", "fill", "(LFormationist$Net;I)I"⟩, 1), (⟨"Formationist$TreeMatrix", "determinant", "(I)J"⟩, 1), (⟨"Formationist", "countGroups", "()I"⟩, 18), (⟨"Formationist$Net", "groupOf", "(I)I"⟩, 1), (⟨"Formationist$PebbleGame", "rankOf", "(LFormationist$Net;)I"⟩, 3), (⟨"Formationist$PebbleGame", "gatherPebbles", "(II)Z"⟩, 3), (⟨"Formationist$PebbleGame", "fetchPebble", "(II)Z"⟩, 3), (⟨"Formationist$PebbleGame", "findPebble", "(II)I"⟩, 3), (⟨"Formationist$PebbleGame", "noteWay", "(II)V"⟩, 3), (⟨"Formationist$PebbleGame", "holderAmong", "(I)I"⟩, 3), (⟨"Formationist$PebbleGame", "turnArcs", "(I)V"⟩, 3), (⟨"Formationist", "requireMember", "(I)V"⟩, 18), (⟨"Formationist", "requireUnlike", "(II)V"⟩, 18), (⟨"Formationist$Net", "cut", "(II)V"⟩, 1), (⟨"Formationist", "stepTogether", "()V"⟩, 18), (⟨"Formationist", "stepOf", "(I[I)I"⟩, 18)]
theorem lw_r2 : ∀ q ∈ lw_privs_2, lw_okq q := List.forall_mem_cons.mpr ⟨lw_p16, List.forall_mem_cons.mpr ⟨lw_p17, List.forall_mem_cons.mpr ⟨lw_p18, List.forall_mem_cons.mpr ⟨lw_p19, List.forall_mem_cons.mpr ⟨lw_p20, List.forall_mem_cons.mpr ⟨lw_p21, List.forall_mem_cons.mpr ⟨lw_p22, List.forall_mem_cons.mpr ⟨lw_p23, List.forall_mem_cons.mpr ⟨lw_p24, List.forall_mem_cons.mpr ⟨lw_p25, List.forall_mem_cons.mpr ⟨lw_p26, List.forall_mem_cons.mpr ⟨lw_p27, List.forall_mem_cons.mpr ⟨lw_p28, List.forall_mem_cons.mpr ⟨lw_p29, List.forall_mem_cons.mpr ⟨lw_p30, List.forall_mem_cons.mpr ⟨lw_p31, fun _ h => absurd h List.not_mem_nil⟩⟩⟩⟩⟩⟩⟩⟩⟩⟩⟩⟩⟩⟩⟩⟩
theorem lw_p32 : lw_okq (⟨"Formationist", "excessOf", "(II)I"⟩, 18) := ⟨⟨by decide +kernel, by decide +kernel⟩, List.mem_of_getElem? (i := 26) (by decide +kernel), List.mem_of_getElem? (i := 525) (by decide +kernel), List.mem_of_getElem? (i := 526) (by decide +kernel)⟩
theorem lw_p33 : lw_okq (⟨"Formationist$Net", "pairCount", "()I"⟩, 1) := ⟨⟨by decide +kernel, by decide +kernel⟩, List.mem_of_getElem? (i := 36) (by decide +kernel), List.mem_of_getElem? (i := 561) (by decide +kernel), List.mem_of_getElem? (i := 562) (by decide +kernel)⟩
theorem lw_p34 : lw_okq (⟨"Formationist", "outranks", "(II)Z"⟩, 18) := ⟨⟨by decide +kernel, by decide +kernel⟩, List.mem_of_getElem? (i := 26) (by decide +kernel), List.mem_of_getElem? (i := 585) (by decide +kernel), List.mem_of_getElem? (i := 586) (by decide +kernel)⟩
theorem lw_p35 : lw_okq (⟨"Formationist$LinkCounts", "rankOf", "(LFormationist$Net;)I"⟩, 1) := ⟨⟨by decide +kernel, by decide +kernel⟩, List.mem_of_getElem? (i := 64) (by decide +kernel), List.mem_of_getElem? (i := 637) (by decide +kernel), List.mem_of_getElem? (i := 638) (by decide +kernel)⟩
theorem lw_p36 : lw_okq (⟨"Formationist$LinkCounts", "leavesFree", "(I)Z"⟩, 1) := ⟨⟨by decide +kernel, by decide +kernel⟩, List.mem_of_getElem? (i := 64) (by decide +kernel), List.mem_of_getElem? (i := 644) (by decide +kernel), List.mem_of_getElem? (i := 645) (by decide +kernel)⟩
theorem lw_p37 : lw_okq (⟨"Formationist$LinkCounts", "keepLink", "(I)V"⟩, 1) := ⟨⟨by decide +kernel, by decide +kernel⟩, List.mem_of_getElem? (i := 64) (by decide +kernel), List.mem_of_getElem? (i := 649) (by decide +kernel), List.mem_of_getElem? (i := 650) (by decide +kernel)⟩
def lw_privs_3 : List (MethodName × Nat) := [(⟨"Formationist", "excessOf", "(II)I"⟩, 18), (⟨"Formationist$Net", "pairCount", "()I"⟩, 1), (⟨"Formationist", "outranks", "(II)Z"⟩, 18), (⟨"Formationist$LinkCounts", "rankOf", "(LFormationist$Net;)I"⟩, 1), (⟨"Formationist$LinkCounts", "leavesFree", "(I)Z"⟩, 1), (⟨"Formationist$LinkCounts", "keepLink", "(I)V"⟩, 1)]
theorem lw_r3 : ∀ q ∈ lw_privs_3, lw_okq q := List.forall_mem_cons.mpr ⟨lw_p32, List.forall_mem_cons.mpr ⟨lw_p33, List.forall_mem_cons.mpr ⟨lw_p34, List.forall_mem_cons.mpr ⟨lw_p35, List.forall_mem_cons.mpr ⟨lw_p36, List.forall_mem_cons.mpr ⟨lw_p37, fun _ h => absurd h List.not_mem_nil⟩⟩⟩⟩⟩⟩
def lw_privs : List (MethodName × Nat) := lw_privs_1 ++ (lw_privs_2 ++ (lw_privs_3))
def lw_tbl : List Cond := k2_sels lw_privs ++ tables_1
theorem lw_privs_ok : ∀ q ∈ lw_privs, lw_okq q := by
  show ∀ q ∈ lw_privs_1 ++ (lw_privs_2 ++ (lw_privs_3)), lw_okq q
  exact List.forall_mem_append.mpr ⟨lw_r1, List.forall_mem_append.mpr ⟨lw_r2, lw_r3⟩⟩
-- ===== end of PART A; then your names; then what follows =====
/-! ===== BEGIN words of one list among another's, by their places ===== -/
theorem goodIn_r {big : List Cond} (ws : List Cond) (ps : List Nat) (hp : ws = ps.filterMap (fun i => big[i]?)) (h : ws.all goodWord = true) : GoodIn big ws := by
  intro w hw
  have h1 := List.all_eq_true.mp h w hw
  rw [hp] at hw
  obtain ⟨i, -, hi⟩ := List.mem_filterMap.mp hw
  have hm : w ∈ big := by first | exact List.mem_of_getElem? hi | exact List.getElem?_mem hi
  exact ⟨hm, good_of_word h1⟩
theorem goodIn_app {big a b : List Cond} (ha : GoodIn big a) (hb : GoodIn big b) : GoodIn big (a ++ b) := fun w h => (List.mem_append.mp h).elim (ha w) (hb w)
theorem goodIn_ca {big a b : List Cond} {c : Cond} (ha : GoodIn big (c :: a)) (hb : GoodIn big b) : GoodIn big (c :: (a ++ b)) := fun w h => (List.mem_cons.mp h).elim (fun e => ha w (List.mem_cons.mpr (Or.inl e))) (fun h => (List.mem_append.mp h).elim (fun h => ha w (List.mem_cons.mpr (Or.inr h))) (hb w))
theorem goodIn_sub {big ws : List Cond} (hm : ∀ w ∈ ws, w ∈ big) (h : ws.all goodWord = true) : GoodIn big ws := fun w hw => ⟨hm w hw, good_of_word (List.all_eq_true.mp h w hw)⟩
/-! ===== END ===== -/


/-! ===== BEGIN exceptions that leave a method, and their catching by the caller (launches without stack traces) ===== -/
section VXA
/-! The laws vx_back, vx_callV, vx_callS, vx_callSW, vx_throw0, vx_throwS follow proofs of the library, with one case more: JvmDerived/Free/Laws.lean (Back.of_free), Shelf42/LK1.lean (callV, callS), Shelf/KitTraced.lean (throwNew0V, throwNewS). -/
/-- where a method has thrown q: the class by its name, the cell, what was written, the world -/
def vx_T (XC : String → State → State → Prop) (st : State) (q : Addr) (t : State) (mc ms : Nat) (free : Addr → Prop) : Prop :=
  ∃ (E : String) (ce : Cell) (L : List Loc), XC E st t ∧ t.heap[q]? = some ce ∧ ce.vm = .none ∧ st.vm.findClass E = some ce.cls ∧ st.WarmedH t.vm ∧ st.sameButNew ({ t with vm := st.vm } : State) L mc ms ∧ ∀ z ∈ L, free z.base
def vx_Q (Qc : Array Value → State → Outcome → State → Prop) (XC : String → State → State → Prop) (mc ms : Nat) (free : Addr → Prop) : Array Value → State → Outcome → State → Prop := fun a st o t =>
  (Qc a st o t ∧ ∃ L, FrameEnd st o t L mc ms ∧ ∀ q ∈ L, free q.base) ∨ ∃ q, o = .threw q ∧ vx_T XC st q t mc ms free
/-- a callee that returns or throws -/
def vx_Met (l : Launch) (y : MethodName) (ws : List Cond) (rm : Room) (Pc : Array Value → State → Prop) (Qc : Array Value → State → Outcome → State → Prop) (XC : String → State → State → Prop) (mc ms : Nat) (free : Addr → Prop) : Prop :=
  MetFree l y (headSpec ws rm) Pc (fun _ _ _ _ _ => True) (vx_Q Qc XC mc ms free)
def vx_Post (XC : String → State → State → Prop) (mc ms : Nat) (free : Addr → Prop) : Pt → Array Value → Addr → Pt → Prop := fun A a q B =>
  ∃ (g : JFrame) (mk : MethodId) (t : State) (L : List Loc) (E : String) (ce : Cell), B.U.heap = t.heap ∧ B.U.vm = t.vm ∧ XC E (A.U.calling g mk a) t ∧ t.heap[q]? = some ce ∧ ce.vm = .none ∧ A.U.vm.findClass E = some ce.cls ∧ B.locs = A.locs ++ L ∧ (∀ z ∈ L, free z.base) ∧ B.cells = A.cells + mc ∧ B.slots = A.slots + ms
def vx_Back (l : Launch) (R : Room) (p : Program) (e : Env) (below : List Frame) (s : State) (sargs : Array Value) (y : MethodName) (len W9 : Nat)
    (Pre : Pt → Array Value → Prop) (Post : Pt → Array Value → Option Value → Pt → Prop) (PostX : Pt → Array Value → Addr → Pt → Prop) : Prop :=
  ∀ (m : MethodId) (meth : Method) (c : Code) (A : Pt) (g : JFrame) (ig : Instr) (mk : MethodId) (a : Array Value),
    Stand p l e R s m sargs below meth c A.U A.locs A.cells A.slots → g.method = m → g.locals.size = c.maxLocals → decode c.code g.pc = .ok (ig, len) →
    2 * g.monitorRoom + (g.stack.map fun v => v.category).sum ≤ W9 → A.U.methodNamed? y = some mk → Pre A a →
    (∃ (v : Option Value) (B : Pt), Stand p l e R s m sargs below meth c B.U B.locs B.cells B.slots ∧ Post A a v B ∧
      Steps p.tables e below (doInvoke e (A.U.setTop g) [] mk a).1 (B.U.setTop { g with pc := g.pc + len, stack := v.toList ++ g.stack })) ∨
    (∃ (q : Addr) (B : Pt), Stand p l e R s m sargs below meth c B.U B.locs B.cells B.slots ∧ PostX A a q B ∧
      Steps p.tables e below (doInvoke e (A.U.setTop g) [] mk a).1 ((B.U.setTop g).pushFrame (.throwing q)))
section Payer
variable {l : Launch} {R : Room} {p : Program} {e : Env} {below : List Frame} {s : State} {sargs : Array Value} {y : MethodName} {len W9 : Nat}
theorem vx_back {ws : List Cond} {rm : Room} {Pc : Array Value → State → Prop} {Qc : Array Value → State → Outcome → State → Prop} {XC : String → State → State → Prop} {mc ms : Nat} {free : Addr → Prop} {bytes : ByteArray} {maxL : Nat} {ret : Option FieldType}
    (hM : vx_Met l y ws rm Pc Qc XC mc ms free) (hblind : FrameBlind Pc) (hrc : rm.cells = mc) (hrs : rm.slots = ms)
    (hframes : rm.frames + 1 ≤ R.frames) (hlocals : W9 + (maxL + 11) + rm.locals ≤ R.locals)
    (hws : ∀ w ∈ ws, ∀ a' U, s.WarmedH U.vm → w.before a' U = true) (hcode : Cond.code y bytes maxL ret ∈ ws) (hinit : ∀ a' U, s.WarmedH U.vm → (Cond.initialized y.cls).before a' U = true) :
    vx_Back l R p e below s sargs y len W9 (PreOf R mc ms Pc) (PostOf Qc mc ms free) (vx_Post XC mc ms free) := by
  intro m meth c A g ig mk a X hg hsize hdg hW hn hp
  have h1 : (headSpec ws rm).pre.before a A.U = true := atoms_intro fun w hw => hws w hw _ _ X.warmed
  have h2 : (Cond.code y bytes maxL ret).before a A.U = true := hws _ hcode _ _ X.warmed
  have h3 : (Cond.initialized y.cls).before a A.U = true := hinit _ _ X.warmed
  have h4 : A.cells + (headSpec ws rm).room.cells ≤ R.cells := by rw [show (headSpec ws rm).room.cells = mc from hrc]; exact hp.1
  have h5 : A.slots + (headSpec ws rm).room.slots ≤ R.slots := by rw [show (headSpec ws rm).room.slots = ms from hrs]; exact hp.2.1
  have hPc : Pc a (A.U.calling g mk a) := hblind _ _ _ _ hp.2.2
  obtain ⟨U, Ls, c0, s0⟩ := A
  dsimp only [Pt.U, Pt.locs, Pt.cells, Pt.slots] at h1 h2 h3 h4 h5 X hn hPc ⊢
  obtain ⟨methY, cY, hmY, hcY, -, hlY, -, -, -, -⟩ := Cond.code_spec hn h2
  obtain ⟨kY, hkY, -⟩ := className_of_methodNamed hn
  have hinitY : kY.init = .initialized := Cond.initialized_spec (findClass_of_methodNamed hn) hkY h3
  have h : At U g.method c below := by rw [hg]; exact X.here
  have hlocals9 : W9 + (maxL + 11) + (headSpec ws rm).room.locals ≤ R.locals := hlocals
  have happ : (headSpec ws rm).appliesLoose y e.platform (U.calling g mk a) = true :=
    Spec.appliesLoose_calling (g := g) h hdg hn hkY hinitY
      (X.room_calling (g := g) (R' := (headSpec ws rm).room) hsize hmY hcY hframes (by rw [hlY]; omega) h4 h5) h1
  obtain ⟨mid, hmid⟩ := h.above
  have hfr : (U.setTop g).frames = (.java g :: mid) ++ below := by rw [State.frames_setTop' g h.top, hmid]; rfl
  obtain ⟨o, s₂, hsteps, -, hend, hq⟩ := Steps.callFree hM p X.admits X.cas X.clock (acts := []) hfr happ hPc trivial
  have hq' : vx_Q Qc XC mc ms free a (U.calling g mk a) o s₂ := hq
  rw [State.frames_setTop' g h.top] at hend
  obtain ⟨g₀, hg0⟩ := Option.isSome_iff_exists.mp h.top
  obtain ⟨r, hr⟩ := State.topJava?_eq_some.mp hg0
  have hr' : (({ U with heap := s₂.heap, slotsUsed := s₂.slotsUsed } : State).setVm s₂.vm).frames = .java g₀ :: r := hr
  rcases hq' with ⟨hqc, L, hfe, hL⟩ | ⟨q, rfl, E, ce, L, hx, hce, hcv, hcl, hW₂, hsm, hL⟩
  · obtain ⟨⟨v, rfl⟩, hW₂, e2, q2, q3, q4, q5, q6⟩ := id hfe
    have e3 : s₂ = ({ (U.calling g mk a).setFrames s₂.frames with heap := s₂.heap, slotsUsed := s₂.slotsUsed } : State).setVm s₂.vm := by
      have : s₂ = ({ s₂ with vm := (U.calling g mk a).vm } : State).setVm s₂.vm := rfl
      rw [e2] at this
      exact this
    obtain ⟨c₂, i₂, len₂, hc₂, hd₂, hf₂⟩ := hend
    have hW' : U.WarmedH s₂.vm := hW₂
    have hcc : c₂ = c := by
      have h1 : s₂.code? g.method = U.code? g.method := by
        rw [State.code?_eq, State.code?_eq, hW'.alike.method?]
      exact Option.some.inj (hc₂.symm.trans (h1.trans h.code))
    subst hcc
    have hlen : len₂ = len := by rw [hdg] at hd₂; cases hd₂; rfl
    subst hlen
    have hs₂ : s₂ = (({ U with heap := s₂.heap, slotsUsed := s₂.slotsUsed } : State).setVm s₂.vm).setTop { g with pc := g.pc + len₂, stack := v.toList ++ g.stack } := by
      refine e3.trans ?_
      rw [hf₂, State.calling_eq h.top, State.setFrames_setFrames, State.setTop_of_frames _ hr', hr]
      rfl
    have hsame : U.sameButNew ({ U with heap := s₂.heap, slotsUsed := s₂.slotsUsed } : State) L mc ms := by
      refine ⟨?_, q2, q3, q4, q5, q6⟩
      obtain ⟨t, ht, -⟩ := State.frames_cons hr
      show ({ U with heap := s₂.heap, slotsUsed := s₂.slotsUsed } : State) = { U.setFrames U.frames with heap := s₂.heap, slotsUsed := s₂.slotsUsed }
      rw [State.setFrames_self ht]
    subst hg
    refine Or.inl ⟨v, ⟨(({ U with heap := s₂.heap, slotsUsed := s₂.slotsUsed } : State).setVm s₂.vm), Ls ++ L, c0 + mc, s0 + ms⟩,
      ⟨X.admits, X.cas, X.clock, X.frames, X.room, X.hears, X.method, X.code, (X.here.setHeapUsed s₂.heap s₂.slotsUsed).setVm hW'.alike, X.tail, State.WarmedH.trans X.warmed hW', X.limits, X.bytes, X.same.trans (hsame.setVm s.vm)⟩,
      ⟨g, mk, s₂, L, rfl, rfl, hqc, rfl, hL, rfl, rfl⟩, ?_⟩
    show Steps p.tables e below _ ((({ U with heap := s₂.heap, slotsUsed := s₂.slotsUsed } : State).setVm s₂.vm).setTop { g with pc := g.pc + len₂, stack := v.toList ++ g.stack })
    rw [← hs₂]
    exact hsteps
  · obtain ⟨e2, q2, q3, q4, q5, q6⟩ := id hsm
    have e3 : s₂ = ({ (U.calling g mk a).setFrames s₂.frames with heap := s₂.heap, slotsUsed := s₂.slotsUsed } : State).setVm s₂.vm := by
      have : s₂ = ({ s₂ with vm := (U.calling g mk a).vm } : State).setVm s₂.vm := rfl
      rw [e2] at this
      exact this
    have hf₂ : s₂.frames = .throwing q :: .java g :: U.frames.tail := hend
    have hW' : U.WarmedH s₂.vm := hW₂
    have hs₂ : s₂ = ((({ U with heap := s₂.heap, slotsUsed := s₂.slotsUsed } : State).setVm s₂.vm).setTop g).pushFrame (.throwing q) := by
      refine e3.trans ?_
      rw [hf₂, State.calling_eq h.top, State.setFrames_setFrames, State.pushFrame, State.frames_setTop _ hr', State.setTop_of_frames _ hr', State.setFrames_setFrames, hr]
      rfl
    have hsame : U.sameButNew ({ U with heap := s₂.heap, slotsUsed := s₂.slotsUsed } : State) L mc ms := by
      refine ⟨?_, q2, q3, q4, q5, q6⟩
      obtain ⟨t, ht, -⟩ := State.frames_cons hr
      show ({ U with heap := s₂.heap, slotsUsed := s₂.slotsUsed } : State) = { U.setFrames U.frames with heap := s₂.heap, slotsUsed := s₂.slotsUsed }
      rw [State.setFrames_self ht]
    subst hg
    refine Or.inr ⟨q, ⟨(({ U with heap := s₂.heap, slotsUsed := s₂.slotsUsed } : State).setVm s₂.vm), Ls ++ L, c0 + mc, s0 + ms⟩,
      ⟨X.admits, X.cas, X.clock, X.frames, X.room, X.hears, X.method, X.code, (X.here.setHeapUsed s₂.heap s₂.slotsUsed).setVm hW'.alike, X.tail, State.WarmedH.trans X.warmed hW', X.limits, X.bytes, X.same.trans (hsame.setVm s.vm)⟩,
      ⟨g, mk, s₂, L, E, ce, rfl, rfl, hx, hce, hcv, hcl, rfl, hL, rfl, rfl⟩, ?_⟩
    show Steps p.tables e below _ (((({ U with heap := s₂.heap, slotsUsed := s₂.slotsUsed } : State).setVm s₂.vm).setTop g).pushFrame (.throwing q))
    rw [← hs₂]
    exact hsteps
end Payer
section Calls
variable {p : Program} {l : Launch} {e : Env} {R : Room} {s : State} {m : MethodId} {args : Array Value} {below : List Frame} {meth : Method} {c : Code} {T : State} {locs : List Loc} {cells slots : Nat}
theorem vx_callV (X : Stand p l e R s m args below meth c T locs cells slots) (hexec : p.tables.exec = Jvm.exec) {own C : String} {index : Nat} {y : MethodName} {bytes : ByteArray} {maxL : Nat} {ret : Option FieldType}
    (hown : s.vm.findClass own = some m.cls) (hlink : (Cond.methodLink own index y).before args s = true) (hinst : (Cond.instanceMethod y).before args s = true) (hsel : (Cond.selects C y y).before args s = true)
    (hcode : (Cond.code y bytes maxL ret).before args s = true) (hy : y.cls ≠ "java/lang/invoke/MethodHandle" ∧ y.cls ≠ "java/lang/invoke/VarHandle")
    {W9 : Nat} {Pre : Pt → Array Value → Prop} {Post : Pt → Array Value → Option Value → Pt → Prop} {PostX : Pt → Array Value → Addr → Pt → Prop} (hK : vx_Back l R p e below s args y 3 W9 Pre Post PostX)
    {b : Addr} {cellB : Cell} (hcell : T.heap[b]? = some cellB) (hobj : cellB.vm.isStatics = false) (hcls : s.vm.findClass C = some cellB.cls)
    {g : JFrame} (hg : g.method = m) (hsize : g.locals.size = c.maxLocals) {argsL rest : List Value} (hlen : ∀ sig, parseMethodDescriptor y.desc = some sig → argsL.length = sig.parameters.length)
    (hstack : g.stack = argsL.reverse ++ .ref b :: rest) (hW : 2 * g.monitorRoom + (rest.map fun v => v.category).sum ≤ W9) (hdg : decode c.code g.pc = .ok (.invokevirtual index, 3))
    (hpre : ∀ vm₁, s.WarmedH vm₁ → Pre ⟨T.setVm vm₁, locs, cells, slots⟩ (Value.ref b :: argsL).toArray) :
    (∃ (v : Option Value) (vm₁ : Vm) (B : Pt), s.WarmedH vm₁ ∧ Stand p l e R s m args below meth c B.U B.locs B.cells B.slots ∧ Post ⟨T.setVm vm₁, locs, cells, slots⟩ (Value.ref b :: argsL).toArray v B ∧
      ∀ target, Steps p.tables e below (B.U.setTop { g with pc := g.pc + 3, stack := v.toList ++ rest }) target → Steps p.tables e below (T.setTop g) target) ∨
    (∃ (q : Addr) (vm₁ : Vm) (B : Pt), s.WarmedH vm₁ ∧ Stand p l e R s m args below meth c B.U B.locs B.cells B.slots ∧ PostX ⟨T.setVm vm₁, locs, cells, slots⟩ (Value.ref b :: argsL).toArray q B ∧
      Steps p.tables e below (T.setTop g) ((B.U.setTop { g with stack := rest }).pushFrame (.throwing q))) := by
  obtain ⟨mk, methM, hnamed, hmethM, hstM, habM⟩ := Cond.instanceMethod_spec hinst
  obtain ⟨methM', cM, hmethM', -, -, -, -, -, -, hsigM⟩ := Cond.code_spec hnamed hcode
  cases hmethM.symm.trans hmethM'
  obtain ⟨c2, r2, m2, q1, q2, q3, q4, kP, hkP, hkPi⟩ := Cond.selects_spec hsel
  cases hcls.symm.trans q1
  cases (State.methodFound?_of_named hnamed hy).symm.trans q2
  cases hnamed.symm.trans q3
  have hselP : selectMethod e.platform s.vm cellB.cls mk = .method mk := by rw [Launch.admits_selectMethod X.admits]; exact q4
  obtain ⟨vm₁, X₁, hstep₁⟩ := X.invokevirtual hexec hown hlink hnamed hmethM hstM hkP hkPi hy (a := b) (cell := cellB) hcell
    (fun z h => by rw [h] at hobj; cases hobj) hselP hmethM habM hkP hkPi (g := g) hg (argsL := argsL) (rest := rest) (hlen _ hsigM) hstack hdg
  rcases hK m meth c ⟨T.setVm vm₁, locs, cells, slots⟩ { g with stack := rest } (.invokevirtual index) mk (Value.ref b :: argsL).toArray X₁ hg hsize hdg hW (X₁.named hnamed) (hpre vm₁ X₁.warmed) with ⟨v, B, X', hpost, hsteps⟩ | ⟨q, B, X', hpost, hsteps⟩
  · exact Or.inl ⟨v, vm₁, B, X₁.warmed, X', hpost, fun target h => hstep₁ _ fun acts => by rw [doInvoke_state]; exact hsteps.trans h⟩
  · exact Or.inr ⟨q, vm₁, B, X₁.warmed, X', hpost, hstep₁ _ fun acts => by rw [doInvoke_state]; exact hsteps⟩
theorem vx_callS (X : Stand p l e R s m args below meth c T locs cells slots) (hexec : p.tables.exec = Jvm.exec) {own : String} {index : Nat} {y : MethodName} {bytes : ByteArray} {maxL : Nat} {ret : Option FieldType}
    (hown : s.vm.findClass own = some m.cls) (hlink : (Cond.methodLink own index y).before args s = true) (hstat : (Cond.static y).before args s = true) (hinit : (Cond.initialized y.cls).before args s = true)
    (hcode : (Cond.code y bytes maxL ret).before args s = true) (hy : y.cls ≠ "java/lang/invoke/MethodHandle" ∧ y.cls ≠ "java/lang/invoke/VarHandle")
    {W9 : Nat} {Pre : Pt → Array Value → Prop} {Post : Pt → Array Value → Option Value → Pt → Prop} {PostX : Pt → Array Value → Addr → Pt → Prop} (hK : vx_Back l R p e below s args y 3 W9 Pre Post PostX)
    {g : JFrame} (hg : g.method = m) (hsize : g.locals.size = c.maxLocals) {argsL rest : List Value} (hlen : ∀ sig, parseMethodDescriptor y.desc = some sig → argsL.length = sig.parameters.length)
    (hstack : g.stack = argsL.reverse ++ rest) (hW : 2 * g.monitorRoom + (rest.map fun v => v.category).sum ≤ W9) (hdg : decode c.code g.pc = .ok (.invokestatic index, 3))
    (hpre : ∀ vm₁, s.WarmedH vm₁ → Pre ⟨T.setVm vm₁, locs, cells, slots⟩ argsL.toArray) :
    (∃ (v : Option Value) (vm₁ : Vm) (B : Pt), s.WarmedH vm₁ ∧ Stand p l e R s m args below meth c B.U B.locs B.cells B.slots ∧ Post ⟨T.setVm vm₁, locs, cells, slots⟩ argsL.toArray v B ∧
      ∀ target, Steps p.tables e below (B.U.setTop { g with pc := g.pc + 3, stack := v.toList ++ rest }) target → Steps p.tables e below (T.setTop g) target) ∨
    (∃ (q : Addr) (vm₁ : Vm) (B : Pt), s.WarmedH vm₁ ∧ Stand p l e R s m args below meth c B.U B.locs B.cells B.slots ∧ PostX ⟨T.setVm vm₁, locs, cells, slots⟩ argsL.toArray q B ∧
      Steps p.tables e below (T.setTop g) ((B.U.setTop { g with stack := rest }).pushFrame (.throwing q))) := by
  obtain ⟨mk, hnamed⟩ := Cond.code_named hcode
  obtain ⟨methM, cM, hmethM, -, -, -, -, -, -, hsigM⟩ := Cond.code_spec hnamed hcode
  have hstatic : methM.isStatic = true := Cond.static_spec hnamed hmethM hstat
  obtain ⟨kP, hkP, -⟩ := className_of_methodNamed hnamed
  have hinitP : kP.init = .initialized := Cond.initialized_spec (findClass_of_methodNamed hnamed) hkP hinit
  obtain ⟨vm₁, X₁, hstep₁⟩ := X.invokestatic hexec hown hlink hnamed hmethM hstatic hkP hinitP hy (g := g) hg (argsL := argsL) (rest := rest) (hlen _ hsigM) hstack hdg
  rcases hK m meth c ⟨T.setVm vm₁, locs, cells, slots⟩ { g with stack := rest } (.invokestatic index) mk argsL.toArray X₁ hg hsize hdg hW (X₁.named hnamed) (hpre vm₁ X₁.warmed) with ⟨v, B, X', hpost, hsteps⟩ | ⟨q, B, X', hpost, hsteps⟩
  · exact Or.inl ⟨v, vm₁, B, X₁.warmed, X', hpost, fun target h => hstep₁ _ fun acts => by rw [doInvoke_state]; exact hsteps.trans h⟩
  · exact Or.inr ⟨q, vm₁, B, X₁.warmed, X', hpost, hstep₁ _ fun acts => by rw [doInvoke_state]; exact hsteps⟩
end Calls
theorem vx_cls {s : State} {T : State} {vm₁ : Vm} {E : String} {k : ClassId} (hW : s.WarmedH vm₁) (h : (T.setVm vm₁).vm.findClass E = some k) : s.vm.findClass E = some k := by
  have h1 : vm₁.findClass E = some k := h
  rw [hW.alike.findClass] at h1
  exact h1
/-- the method's frame g, with q thrown over it -/
def vx_W (p : Program) (l : Launch) (e : Env) (R : Room) (s : State) (m : MethodId) (args : Array Value) (below : List Frame) (meth : Method) (c : Code) (H : Heap) (locs : List Loc) (cells slots : Nat) (Q : State → Prop) (g : JFrame) (q : Addr) : Prop :=
  ∀ T : State, T.heap = H → Stand p l e R s m args below meth c T locs cells slots → ∃ t, Steps p.tables e below ((T.setTop g).pushFrame (.throwing q)) t ∧ Q t
def vx_Run (p : Program) (l : Launch) (e : Env) (R : Room) (s : State) (m : MethodId) (args : Array Value) (below : List Frame) (meth : Method) (c : Code) (H : Heap) (locs : List Loc) (cells slots mc ms : Nat) (g : JFrame) (rest : List Value) (Qa : State → Outcome → State → Prop) (XC : String → State → State → Prop) (free : Addr → Prop) : Prop :=
  ∀ T : State, T.heap = H → Stand p l e R s m args below meth c T locs cells slots →
    (∃ (v : Option Value) (st₀ t T' : State) (L : List Loc), st₀.heap = H ∧ Stand p l e R s m args below meth c T' (locs ++ L) (cells + mc) (slots + ms) ∧ (∀ q ∈ L, free q.base) ∧ T'.heap = t.heap ∧ T'.vm = t.vm ∧ Qa st₀ (.returned v) t ∧
      Goes p e below T g T' { g with pc := g.pc + 3, stack := v.toList ++ rest }) ∨
    (∃ (q : Addr) (st₀ t T' : State) (L : List Loc) (E : String) (ce : Cell), st₀.heap = H ∧ Stand p l e R s m args below meth c T' (locs ++ L) (cells + mc) (slots + ms) ∧ (∀ z ∈ L, free z.base) ∧ T'.heap = t.heap ∧ T'.vm = t.vm ∧ XC E st₀ t ∧ t.heap[q]? = some ce ∧ ce.vm = .none ∧ s.vm.findClass E = some ce.cls ∧
      Steps p.tables e below (T.setTop g) ((T'.setTop { g with stack := rest }).pushFrame (.throwing q)))
def vx_X {S : Type} (px : S → Prop) (B : String → S → State → Prop) (A : Nat → Prop) : String → State → State → Prop := fun E st t => ∃ u : S, px u ∧ B E u t ∧ va_F A st t
section Runs
variable {p : Program} {l : Launch} {e : Env} {R : Room} {s : State} {m : MethodId} {args : Array Value} {below : List Frame} {meth : Method} {c : Code} {H : Heap} {locs : List Loc} {cells slots : Nat}
variable {y : MethodName} {bytes cc : ByteArray} {maxL nL mc ms n index : Nat} {ret : Option FieldType} {ws : List Cond} {rm : Room} {Pc : Array Value → State → Prop} {Qc : Array Value → State → Outcome → State → Prop} {XC : String → State → State → Prop} {free : Addr → Prop} {Ts : List Cond} {own C : String} {b : Addr} {As rest : List Value} {g : JFrame}
theorem vx_callBack (cb : CallB R s args own index y bytes maxL ret ws rm mc ms n) (hM : vx_Met l y ws rm Pc Qc XC mc ms free) (hbl : FrameBlind Pc) : vx_Back l R p e below s args y 3 8 (PreOf R mc ms Pc) (PostOf Qc mc ms free) (vx_Post XC mc ms free) := by
  obtain ⟨hrc, hrs, hfr, hlo, hws, hcw, -, hini, -⟩ := cb
  exact vx_back (bytes := bytes) (maxL := maxL) (ret := ret) hM hbl hrc hrs hfr hlo hws hcw (fun a' U hW => word_at hW (Or.inl (by first | rfl | simp [Cond.onTables, Cond.keeps, Cond.steady])) hini)
theorem vx_runV (S : CallFix p m c cc nL s args Ts own) (hM : vx_Met l y ws rm Pc Qc XC mc ms free) (cw : CallW R s args own C index y bytes maxL ret ws rm mc ms n) (hp : PreV s H C b Pc As)
    (hg : g.method = m) (hn : As.length = n) (hsize : g.locals.size = nL) (hstack : g.stack = As.reverse ++ .ref b :: rest) (hW : 2 * g.monitorRoom + (rest.map fun v => v.category).sum ≤ 8) (hdg : decode cc g.pc = .ok (.invokevirtual index, 3)) (hf : cells + mc ≤ R.cells ∧ slots + ms ≤ R.slots) :
    vx_Run p l e R s m args below meth c H locs cells slots mc ms g rest (Qc (Value.ref b :: As).toArray) XC free := by
  have hK : vx_Back l R p e below s args y 3 8 (PreOf R mc ms Pc) (PostOf Qc mc ms free) (vx_Post XC mc ms free) := vx_callBack cw.1 hM hp.1
  obtain ⟨⟨-, -, -, -, -, -, hcode, -, hy, hlen, hl⟩, hin, hse⟩ := cw
  obtain ⟨hx, hb, hml, ho, -⟩ := S
  obtain ⟨-, ⟨cellB, hcB, hoB, hclB⟩, hPc⟩ := hp
  intro T hT X
  rcases vx_callV X hx (C := C) (bytes := bytes) (maxL := maxL) (ret := ret) ho hl hin hse hcode hy hK (by rw [hT]; exact hcB) hoB hclB hg (hsize.trans hml.symm) (argsL := As) (rest := rest) (fun sig h => hn.trans (hlen sig h)) hstack hW (by rw [hb]; exact hdg)
    (fun vm₁ hW₁ => ⟨hf.1, hf.2, hPc (T.setVm vm₁) hT hW₁⟩) with ⟨v, vm₁, ⟨U', l2, c2, s2⟩, hW₁, X', ⟨g', mk, t, L, e1, e2, hq, h1, hL, h2, h3⟩, st⟩ | ⟨q, vm₁, ⟨U', l2, c2, s2⟩, hW₁, X', ⟨g', mk, t, L, E, ce, e1, e2, hq, hce, hcv, hcl, h1, hL, h2, h3⟩, st⟩
  · dsimp only [Pt.U, Pt.locs, Pt.cells, Pt.slots] at X' e1 e2 h1 h2 h3 st
    subst h1; subst h2; subst h3
    exact Or.inl ⟨v, (T.setVm vm₁).calling g' mk (Value.ref b :: As).toArray, t, U', L, hT, X', hL, e1, e2, hq, st⟩
  · dsimp only [Pt.U, Pt.locs, Pt.cells, Pt.slots] at X' e1 e2 h1 h2 h3 st hcl
    subst h1; subst h2; subst h3
    exact Or.inr ⟨q, (T.setVm vm₁).calling g' mk (Value.ref b :: As).toArray, t, U', L, E, ce, hT, X', hL, e1, e2, hq, hce, hcv, vx_cls hW₁ hcl, st⟩
theorem vx_runS (S : CallFix p m c cc nL s args Ts own) (hM : vx_Met l y ws rm Pc Qc XC mc ms free) (cw : CallB R s args own index y bytes maxL ret ws rm mc ms n ∧ (Cond.static y).before args s = true) (hp : PreS s H Pc As)
    (hg : g.method = m) (hn : As.length = n) (hsize : g.locals.size = nL) (hstack : g.stack = As.reverse ++ rest) (hW : 2 * g.monitorRoom + (rest.map fun v => v.category).sum ≤ 8) (hdg : decode cc g.pc = .ok (.invokestatic index, 3)) (hf : cells + mc ≤ R.cells ∧ slots + ms ≤ R.slots) :
    vx_Run p l e R s m args below meth c H locs cells slots mc ms g rest (Qc As.toArray) XC free := by
  have hK : vx_Back l R p e below s args y 3 8 (PreOf R mc ms Pc) (PostOf Qc mc ms free) (vx_Post XC mc ms free) := vx_callBack cw.1 hM hp.1
  obtain ⟨⟨-, -, -, -, -, -, hcode, hini, hy, hlen, hl⟩, hstt⟩ := cw
  obtain ⟨hx, hb, hml, ho, -⟩ := S
  intro T hT X
  rcases vx_callS X hx (bytes := bytes) (maxL := maxL) (ret := ret) ho hl hstt hini hcode hy hK hg (hsize.trans hml.symm) (argsL := As) (rest := rest) (fun sig h => hn.trans (hlen sig h)) hstack hW (by rw [hb]; exact hdg)
    (fun vm₁ hW₁ => ⟨hf.1, hf.2, hp.2 (T.setVm vm₁) hT hW₁⟩) with ⟨v, vm₁, ⟨U', l2, c2, s2⟩, hW₁, X', ⟨g', mk, t, L, e1, e2, hq, h1, hL, h2, h3⟩, st⟩ | ⟨q, vm₁, ⟨U', l2, c2, s2⟩, hW₁, X', ⟨g', mk, t, L, E, ce, e1, e2, hq, hce, hcv, hcl, h1, hL, h2, h3⟩, st⟩
  · dsimp only [Pt.U, Pt.locs, Pt.cells, Pt.slots] at X' e1 e2 h1 h2 h3 st
    subst h1; subst h2; subst h3
    exact Or.inl ⟨v, (T.setVm vm₁).calling g' mk As.toArray, t, U', L, hT, X', hL, e1, e2, hq, st⟩
  · dsimp only [Pt.U, Pt.locs, Pt.cells, Pt.slots] at X' e1 e2 h1 h2 h3 st hcl
    subst h1; subst h2; subst h3
    exact Or.inr ⟨q, (T.setVm vm₁).calling g' mk As.toArray, t, U', L, E, ce, hT, X', hL, e1, e2, hq, hce, hcv, vx_cls hW₁ hcl, st⟩
end Runs
section Rows
variable {p : Program} {l : Launch} {e : Env} {R : Room} {s : State} {m : MethodId} {args : Array Value} {below : List Frame} {meth : Method} {c : Code} {H : Heap} {locs : List Loc} {cells slots : Nat} {Q : State → Prop}
variable {mc ms : Nat} {free : Addr → Prop} {A0 A1 : Nat → Prop} {H0 : Heap} {a : Array Value} {pc : Nat} {ls : Array Slot} {st0 rest : List Value}
theorem vx_keep {st₀ t T' : State} {L : List Loc} (h0 : st₀.heap = H) (e1 : T'.heap = t.heap) (hS : va_S A0 H0 H locs) (hA : ∀ q, q < H.size → A1 q → A0 q) (hf : ∀ q, free q → A0 q) (hL : ∀ q ∈ L, free q.base) (hF : va_F A1 st₀ t) :
    H.size ≤ T'.heap.size ∧ (∀ q : Nat, q < H.size → ¬ A1 q → T'.heap[q]? = H[q]?) ∧ va_S A0 H0 T'.heap (locs ++ L) := by
  obtain ⟨hz, hk⟩ := hF
  rw [h0] at hz hk
  exact ⟨by rw [e1]; exact hz, fun q h1 h2 => by rw [e1]; exact hk q h1 h2,
    ⟨Nat.le_trans hS.1 (by rw [e1]; exact hz), fun q h1 h2 => by rw [e1, hk q (Nat.lt_of_lt_of_le h1 hS.1) (fun z => h2 (hA q (Nat.lt_of_lt_of_le h1 hS.1) z))]; exact hS.2.1 q h1 h2, fun q hq => by
      rcases List.mem_append.mp hq with h | h
      · exact hS.2.2 q h
      · exact hf _ (hL q h)⟩⟩
theorem vx_calli {S SX : Type} {post : Int32 → S → Prop} {px : SX → Prop} {B : S → State → Prop} {BX : String → SX → State → Prop} {AX : Nat → Prop} (hr : vx_Run p l e R s m args below meth c H locs cells slots mc ms (F0 m pc ls st0) rest (va_Qi post B A1 a) (vx_X px BX AX) free) (hS : va_S A0 H0 H locs) (hA : ∀ q, q < H.size → A1 q → A0 q) (hf : ∀ q, free q → A0 q) (hAX : ∀ q, q < H.size → AX q → A0 q)
    (kx : ∀ (E : String) (ce : Cell) (q9 : Addr) (u : SX) (t : State) (H1 : Heap) (locs1 : List Loc), t.heap = H1 → s.vm.Alike t.vm → px u → BX E u t → H.size ≤ H1.size → (∀ q : Nat, q < H.size → ¬ AX q → H1[q]? = H[q]?) → va_S A0 H0 H1 locs1 → H1[q9]? = some ce → ce.vm = .none → s.vm.findClass E = some ce.cls → vx_W p l e R s m args below meth c H1 locs1 (cells + mc) (slots + ms) Q (F0 m pc ls rest) q9)
    (kk : ∀ (r : Int32) (u : S) (t : State) (H1 : Heap) (locs1 : List Loc), t.heap = H1 → s.vm.Alike t.vm → post r u → B u t → H.size ≤ H1.size → (∀ q : Nat, q < H.size → ¬ A1 q → H1[q]? = H[q]?) → va_S A0 H0 H1 locs1 → W p l e R s m args below meth c H1 locs1 (cells + mc) (slots + ms) Q (F0 m (pc + 3) ls (.int r :: rest))) : W p l e R s m args below meth c H locs cells slots Q (F0 m pc ls st0) := by
  intro T hT X
  rcases hr T hT X with ⟨v, st₀, t, T', L, h0, X', hL, e1, e2, ⟨⟨r, u, hv, hp, hb⟩, hF⟩, st⟩ | ⟨q, st₀, t, T', L, E, ce, h0, X', hL, e1, e2, ⟨u, hp, hb, hF⟩, hce, hcv, hcl, st⟩
  · cases hv
    obtain ⟨k1, k2, k3⟩ := vx_keep h0 e1 hS hA hf hL hF
    obtain ⟨t2, a1, b1⟩ := kk r u t T'.heap (locs ++ L) e1.symm (by rw [← e2]; exact X'.warmed.alike) hp hb k1 k2 k3 T' rfl X'
    exact ⟨t2, st t2 a1, b1⟩
  · obtain ⟨k1, k2, k3⟩ := vx_keep h0 e1 hS hAX hf hL hF
    obtain ⟨t2, a1, b1⟩ := kx E ce q u t T'.heap (locs ++ L) e1.symm (by rw [← e2]; exact X'.warmed.alike) hp hb k1 k2 k3 (by rw [e1]; exact hce) hcv hcl T' rfl X'
    exact ⟨t2, st.trans a1, b1⟩
theorem vx_calll {S SX : Type} {post : Int64 → S → Prop} {px : SX → Prop} {B : S → State → Prop} {BX : String → SX → State → Prop} {AX : Nat → Prop} (hr : vx_Run p l e R s m args below meth c H locs cells slots mc ms (F0 m pc ls st0) rest (va_Ql post B A1 a) (vx_X px BX AX) free) (hS : va_S A0 H0 H locs) (hA : ∀ q, q < H.size → A1 q → A0 q) (hf : ∀ q, free q → A0 q) (hAX : ∀ q, q < H.size → AX q → A0 q)
    (kx : ∀ (E : String) (ce : Cell) (q9 : Addr) (u : SX) (t : State) (H1 : Heap) (locs1 : List Loc), t.heap = H1 → s.vm.Alike t.vm → px u → BX E u t → H.size ≤ H1.size → (∀ q : Nat, q < H.size → ¬ AX q → H1[q]? = H[q]?) → va_S A0 H0 H1 locs1 → H1[q9]? = some ce → ce.vm = .none → s.vm.findClass E = some ce.cls → vx_W p l e R s m args below meth c H1 locs1 (cells + mc) (slots + ms) Q (F0 m pc ls rest) q9)
    (kk : ∀ (r : Int64) (u : S) (t : State) (H1 : Heap) (locs1 : List Loc), t.heap = H1 → s.vm.Alike t.vm → post r u → B u t → H.size ≤ H1.size → (∀ q : Nat, q < H.size → ¬ A1 q → H1[q]? = H[q]?) → va_S A0 H0 H1 locs1 → W p l e R s m args below meth c H1 locs1 (cells + mc) (slots + ms) Q (F0 m (pc + 3) ls (.long r :: rest))) : W p l e R s m args below meth c H locs cells slots Q (F0 m pc ls st0) := by
  intro T hT X
  rcases hr T hT X with ⟨v, st₀, t, T', L, h0, X', hL, e1, e2, ⟨⟨r, u, hv, hp, hb⟩, hF⟩, st⟩ | ⟨q, st₀, t, T', L, E, ce, h0, X', hL, e1, e2, ⟨u, hp, hb, hF⟩, hce, hcv, hcl, st⟩
  · cases hv
    obtain ⟨k1, k2, k3⟩ := vx_keep h0 e1 hS hA hf hL hF
    obtain ⟨t2, a1, b1⟩ := kk r u t T'.heap (locs ++ L) e1.symm (by rw [← e2]; exact X'.warmed.alike) hp hb k1 k2 k3 T' rfl X'
    exact ⟨t2, st t2 a1, b1⟩
  · obtain ⟨k1, k2, k3⟩ := vx_keep h0 e1 hS hAX hf hL hF
    obtain ⟨t2, a1, b1⟩ := kx E ce q u t T'.heap (locs ++ L) e1.symm (by rw [← e2]; exact X'.warmed.alike) hp hb k1 k2 k3 (by rw [e1]; exact hce) hcv hcl T' rfl X'
    exact ⟨t2, st.trans a1, b1⟩
theorem vx_callf {S SX : Type} {post : UInt32 → S → Prop} {px : SX → Prop} {B : S → State → Prop} {BX : String → SX → State → Prop} {AX : Nat → Prop} (hr : vx_Run p l e R s m args below meth c H locs cells slots mc ms (F0 m pc ls st0) rest (va_Qf post B A1 a) (vx_X px BX AX) free) (hS : va_S A0 H0 H locs) (hA : ∀ q, q < H.size → A1 q → A0 q) (hf : ∀ q, free q → A0 q) (hAX : ∀ q, q < H.size → AX q → A0 q)
    (kx : ∀ (E : String) (ce : Cell) (q9 : Addr) (u : SX) (t : State) (H1 : Heap) (locs1 : List Loc), t.heap = H1 → s.vm.Alike t.vm → px u → BX E u t → H.size ≤ H1.size → (∀ q : Nat, q < H.size → ¬ AX q → H1[q]? = H[q]?) → va_S A0 H0 H1 locs1 → H1[q9]? = some ce → ce.vm = .none → s.vm.findClass E = some ce.cls → vx_W p l e R s m args below meth c H1 locs1 (cells + mc) (slots + ms) Q (F0 m pc ls rest) q9)
    (kk : ∀ (r : UInt32) (u : S) (t : State) (H1 : Heap) (locs1 : List Loc), t.heap = H1 → s.vm.Alike t.vm → post r u → B u t → H.size ≤ H1.size → (∀ q : Nat, q < H.size → ¬ A1 q → H1[q]? = H[q]?) → va_S A0 H0 H1 locs1 → W p l e R s m args below meth c H1 locs1 (cells + mc) (slots + ms) Q (F0 m (pc + 3) ls (.float r :: rest))) : W p l e R s m args below meth c H locs cells slots Q (F0 m pc ls st0) := by
  intro T hT X
  rcases hr T hT X with ⟨v, st₀, t, T', L, h0, X', hL, e1, e2, ⟨⟨r, u, hv, hp, hb⟩, hF⟩, st⟩ | ⟨q, st₀, t, T', L, E, ce, h0, X', hL, e1, e2, ⟨u, hp, hb, hF⟩, hce, hcv, hcl, st⟩
  · cases hv
    obtain ⟨k1, k2, k3⟩ := vx_keep h0 e1 hS hA hf hL hF
    obtain ⟨t2, a1, b1⟩ := kk r u t T'.heap (locs ++ L) e1.symm (by rw [← e2]; exact X'.warmed.alike) hp hb k1 k2 k3 T' rfl X'
    exact ⟨t2, st t2 a1, b1⟩
  · obtain ⟨k1, k2, k3⟩ := vx_keep h0 e1 hS hAX hf hL hF
    obtain ⟨t2, a1, b1⟩ := kx E ce q u t T'.heap (locs ++ L) e1.symm (by rw [← e2]; exact X'.warmed.alike) hp hb k1 k2 k3 (by rw [e1]; exact hce) hcv hcl T' rfl X'
    exact ⟨t2, st.trans a1, b1⟩
theorem vx_calld {S SX : Type} {post : UInt64 → S → Prop} {px : SX → Prop} {B : S → State → Prop} {BX : String → SX → State → Prop} {AX : Nat → Prop} (hr : vx_Run p l e R s m args below meth c H locs cells slots mc ms (F0 m pc ls st0) rest (va_Qd post B A1 a) (vx_X px BX AX) free) (hS : va_S A0 H0 H locs) (hA : ∀ q, q < H.size → A1 q → A0 q) (hf : ∀ q, free q → A0 q) (hAX : ∀ q, q < H.size → AX q → A0 q)
    (kx : ∀ (E : String) (ce : Cell) (q9 : Addr) (u : SX) (t : State) (H1 : Heap) (locs1 : List Loc), t.heap = H1 → s.vm.Alike t.vm → px u → BX E u t → H.size ≤ H1.size → (∀ q : Nat, q < H.size → ¬ AX q → H1[q]? = H[q]?) → va_S A0 H0 H1 locs1 → H1[q9]? = some ce → ce.vm = .none → s.vm.findClass E = some ce.cls → vx_W p l e R s m args below meth c H1 locs1 (cells + mc) (slots + ms) Q (F0 m pc ls rest) q9)
    (kk : ∀ (r : UInt64) (u : S) (t : State) (H1 : Heap) (locs1 : List Loc), t.heap = H1 → s.vm.Alike t.vm → post r u → B u t → H.size ≤ H1.size → (∀ q : Nat, q < H.size → ¬ A1 q → H1[q]? = H[q]?) → va_S A0 H0 H1 locs1 → W p l e R s m args below meth c H1 locs1 (cells + mc) (slots + ms) Q (F0 m (pc + 3) ls (.double r :: rest))) : W p l e R s m args below meth c H locs cells slots Q (F0 m pc ls st0) := by
  intro T hT X
  rcases hr T hT X with ⟨v, st₀, t, T', L, h0, X', hL, e1, e2, ⟨⟨r, u, hv, hp, hb⟩, hF⟩, st⟩ | ⟨q, st₀, t, T', L, E, ce, h0, X', hL, e1, e2, ⟨u, hp, hb, hF⟩, hce, hcv, hcl, st⟩
  · cases hv
    obtain ⟨k1, k2, k3⟩ := vx_keep h0 e1 hS hA hf hL hF
    obtain ⟨t2, a1, b1⟩ := kk r u t T'.heap (locs ++ L) e1.symm (by rw [← e2]; exact X'.warmed.alike) hp hb k1 k2 k3 T' rfl X'
    exact ⟨t2, st t2 a1, b1⟩
  · obtain ⟨k1, k2, k3⟩ := vx_keep h0 e1 hS hAX hf hL hF
    obtain ⟨t2, a1, b1⟩ := kx E ce q u t T'.heap (locs ++ L) e1.symm (by rw [← e2]; exact X'.warmed.alike) hp hb k1 k2 k3 (by rw [e1]; exact hce) hcv hcl T' rfl X'
    exact ⟨t2, st.trans a1, b1⟩
theorem vx_callv {S SX : Type} {post : S → Prop} {px : SX → Prop} {B : S → State → Prop} {BX : String → SX → State → Prop} {AX : Nat → Prop} (hr : vx_Run p l e R s m args below meth c H locs cells slots mc ms (F0 m pc ls st0) rest (va_Qv post B A1 a) (vx_X px BX AX) free) (hS : va_S A0 H0 H locs) (hA : ∀ q, q < H.size → A1 q → A0 q) (hf : ∀ q, free q → A0 q) (hAX : ∀ q, q < H.size → AX q → A0 q)
    (kx : ∀ (E : String) (ce : Cell) (q9 : Addr) (u : SX) (t : State) (H1 : Heap) (locs1 : List Loc), t.heap = H1 → s.vm.Alike t.vm → px u → BX E u t → H.size ≤ H1.size → (∀ q : Nat, q < H.size → ¬ AX q → H1[q]? = H[q]?) → va_S A0 H0 H1 locs1 → H1[q9]? = some ce → ce.vm = .none → s.vm.findClass E = some ce.cls → vx_W p l e R s m args below meth c H1 locs1 (cells + mc) (slots + ms) Q (F0 m pc ls rest) q9)
    (kk : ∀ (u : S) (t : State) (H1 : Heap) (locs1 : List Loc), t.heap = H1 → s.vm.Alike t.vm → post u → B u t → H.size ≤ H1.size → (∀ q : Nat, q < H.size → ¬ A1 q → H1[q]? = H[q]?) → va_S A0 H0 H1 locs1 → W p l e R s m args below meth c H1 locs1 (cells + mc) (slots + ms) Q (F0 m (pc + 3) ls (rest))) : W p l e R s m args below meth c H locs cells slots Q (F0 m pc ls st0) := by
  intro T hT X
  rcases hr T hT X with ⟨v, st₀, t, T', L, h0, X', hL, e1, e2, ⟨⟨u, hv, hp, hb⟩, hF⟩, st⟩ | ⟨q, st₀, t, T', L, E, ce, h0, X', hL, e1, e2, ⟨u, hp, hb, hF⟩, hce, hcv, hcl, st⟩
  · cases hv
    obtain ⟨k1, k2, k3⟩ := vx_keep h0 e1 hS hA hf hL hF
    obtain ⟨t2, a1, b1⟩ := kk u t T'.heap (locs ++ L) e1.symm (by rw [← e2]; exact X'.warmed.alike) hp hb k1 k2 k3 T' rfl X'
    exact ⟨t2, st t2 a1, b1⟩
  · obtain ⟨k1, k2, k3⟩ := vx_keep h0 e1 hS hAX hf hL hF
    obtain ⟨t2, a1, b1⟩ := kx E ce q u t T'.heap (locs ++ L) e1.symm (by rw [← e2]; exact X'.warmed.alike) hp hb k1 k2 k3 (by rw [e1]; exact hce) hcv hcl T' rfl X'
    exact ⟨t2, st.trans a1, b1⟩
/-- caught by the row x of this method's table; the rows ahead don't take it -/
theorem vx_catch {own name : String} {E : String} {ce : Cell} {q : Addr} (hown : s.vm.findClass own = some m.cls) (pre : List ExceptionTableEntry) (x : ExceptionTableEntry) (suf : List ExceptionTableEntry) (hsplit : c.exceptionTable.toList = pre ++ x :: suf)
    (hpass : ∀ z ∈ pre, covers z pc = false ∨ (z.catchType ≠ 0 ∧ ∃ nm : String, (Cond.classLink own z.catchType nm).before args s = true ∧ va_Nc E nm s)) (hx : covers x pc = true) (h0 : x.catchType ≠ 0)
    (hlink : (Cond.classLink own x.catchType name).before args s = true) (hcast : (Cond.castable E name).before args s = true) (hcell : H[q]? = some ce) (hv : ce.vm = .none) (hcl : s.vm.findClass E = some ce.cls)
    (kk : W p l e R s m args below meth c H locs cells slots Q (F0 m x.handlerPc ls [.ref q])) : vx_W p l e R s m args below meth c H locs cells slots Q (F0 m pc ls rest) q := by
  intro T hT X
  have hpl : e.platform.magicAccessors = ({} : Platform).magicAccessors := by rw [X.admits.platform]
  obtain ⟨c3, c4, hc3, hc4, hasg⟩ := Cond.castable_spec hcast
  cases Option.some.inj (hc3.symm.trans hcl)
  obtain ⟨c5, hc5, hcl5⟩ := Cond.classLink_spec hown hlink e.platform hpl
  cases Option.some.inj (hc4.symm.trans hc5)
  obtain ⟨vm', X', st⟩ := X.thenCaughtThrough q (g := F0 m pc ls rest) rfl (Steps.refl _) (by rw [hT]; exact hcell) (by rw [hv]; rfl) (by obtain ⟨k9, h9, -⟩ := Vm.findClass_spec hcl; exact ⟨k9, h9⟩) pre x suf hsplit
    (fun z hz => by
      rcases hpass z hz with h | ⟨hz0, nm, hl1, hn1⟩
      · exact Or.inl h
      · obtain ⟨c6, hc6, hcl6⟩ := Cond.classLink_spec hown hl1 e.platform hpl
        obtain ⟨a8, b8, h1, h2, h3⟩ := hn1
        cases Option.some.inj (h1.symm.trans hcl)
        cases Option.some.inj (h2.symm.trans hc6)
        exact Or.inr ⟨hz0, _, hcl6, h3⟩) hx (Or.inr ⟨h0, c4, hcl5, hasg⟩)
  obtain ⟨t, a1, b1⟩ := kk (T.setVm vm') hT X'
  exact ⟨t, st.trans a1, b1⟩
end Rows
section Ends
variable {p : Program} {l : Launch} {e : Env} {R : Room} {s : State} {m : MethodId} {args : Array Value} {below : List Frame} {meth : Method} {c : Code} {H : Heap} {locs : List Loc} {cells slots : Nat} {Q : State → Prop}
variable {mc ms : Nat} {free : Addr → Prop} {A0 A1 : Nat → Prop} {H0 : Heap} {a : Array Value} {ls : Array Slot} {st0 rest : List Value}
variable {Qc : Array Value → State → Outcome → State → Prop} {XC : String → State → State → Prop}
/-- what a body that may throw owes at its end -/
def vx_MQ (below : List Frame) (Qc : Array Value → State → Outcome → State → Prop) (XC : String → State → State → Prop) (a : Array Value) (s : State) (mc ms : Nat) (free : Addr → Prop) : State → Prop := fun t =>
  ∃ o, t.status = .running ∧ Ended t below o ∧ vx_Q Qc XC mc ms free a s o t
theorem vx_ret {g : JFrame} {mc ms : Nat} (k : W p l e R s m args below meth c H locs cells slots (MQ below Qc args s mc ms free) g) : W p l e R s m args below meth c H locs cells slots (vx_MQ below Qc XC args s mc ms free) g := by
  intro T hT X
  obtain ⟨t, a1, o, b1, b2, b3, b4⟩ := k T hT X
  exact ⟨t, a1, o, b1, b2, Or.inl ⟨b3, b4⟩⟩
/-- not caught here: it goes on to the caller -/
theorem vx_widen {g : JFrame} {q : Addr} {k n : Nat} (h1 : cells ≤ k) (h2 : slots ≤ n) (kk : vx_W p l e R s m args below meth c H locs k n Q g q) : vx_W p l e R s m args below meth c H locs cells slots Q g q := fun T hT X => kk T hT (stand_widen X h1 h2)
theorem vx_out {pc : Nat} {E : String} {ce : Cell} {q : Addr} {mc ms : Nat} (hout : ∀ x ∈ c.exceptionTable.toList, covers x pc = false) (hlocks : meth.locks = false) (hcell : H[q]? = some ce) (hv : ce.vm = .none) (hcl : s.vm.findClass E = some ce.cls)
    (hx : ∀ t : State, t.heap = H → s.vm.Alike t.vm → XC E s t) (hf : ∀ z ∈ locs, free z.base) (hc : cells ≤ mc) (hs : slots ≤ ms) :
    vx_W p l e R s m args below meth c H locs cells slots (vx_MQ below Qc XC args s mc ms free) (F0 m pc ls rest) q := by
  intro T hT X
  obtain ⟨st1, hrun, hend, hW, hsm⟩ := X.leaveThrown q (g := F0 m pc ls rest) rfl rfl rfl hout hlocks
  have hcell9 : (T.setFrames (.throwing q :: below)).heap[q]? = some ce := by
    show T.heap[q]? = some ce
    rw [hT]; exact hcell
  exact ⟨_, st1, .threw q, hrun, hend, Or.inr ⟨q, rfl, E, ce, locs, hx _ hT hW.alike, hcell9, hv, hcl, hW, hsm.mono hc hs, hf⟩⟩
theorem vx_frame {U : State} {k n : Nat} (h : s.sameButNew ({ U with vm := s.vm } : State) locs k n) : s.heap.size ≤ U.heap.size ∧ ∀ q : Nat, q < s.heap.size → (∀ z ∈ locs, z.base ≠ q) → U.heap[q]? = s.heap[q]? := by
  obtain ⟨-, h2, -, -, -, h6⟩ := h
  refine ⟨h2, fun q hq hz => ?_⟩
  obtain ⟨c9, e1, e2, e3, e4⟩ := h6 q _ (Array.getElem?_eq_getElem hq)
  have hs : c9.slots = (s.heap[q]).slots := Array.ext_getElem? fun i => e4 i fun hm => hz _ hm rfl
  have h9 : c9 = s.heap[q] := by
    rw [hs] at e2
    exact e2
  have e5 : U.heap[q]? = some c9 := e1
  rw [e5, h9, Array.getElem?_eq_getElem hq]
/-- the words of a throw but the four that speak of the heap -/
def vx_no (w : Cond) : Bool := decide (w ≠ .isRef (.static Bundle.tN "UNASSIGNED_STACK" Bundle.steD)) && decide (w ≠ .isRef (.static Bundle.tN "SUPPRESSED_SENTINEL" Bundle.listD)) && decide (w ≠ .laysStatic Bundle.tN "UNASSIGNED_STACK" Bundle.steD) && decide (w ≠ .laysStatic Bundle.tN "SUPPRESSED_SENTINEL" Bundle.listD)
def vx_at0 (own : String) (ic : Nat) (X : String) (names : List String) : List Cond := (Bundle.ownAtoms0 own ic X names).filter vx_no
def vx_atS (own : String) (ic : Nat) (X : String) (names : List String) : List Cond := (Bundle.ownAtoms own ic X names).filter vx_no
/-- a word that the tables alone decide, or a good one -/
def vx_ot (w : Cond) : Bool := w.onTables || goodWord w
theorem vx_ot_at {args a' : Array Value} {s U : State} {w : Cond} (hW : s.WarmedH U.vm) (hvm : s.vm = U.vm) (hg : vx_ot w = true) (h : w.before args s = true) : w.before a' U = true := by
  simp only [vx_ot, Bool.or_eq_true] at hg
  rcases hg with hg | hg
  · exact va_tabs hg hvm h
  · exact word_at hW (good_of_word hg) h
/-- a list's words: the good ones out of the method's own list, the others by premises of their own -/
theorem vx_hat {args : Array Value} {s : State} {L B : List Cond} (h1 : ∀ w ∈ L.filter goodWord, w.before args s = true) (h2 : ∀ w ∈ L.filter (fun w => !goodWord w), w ∈ B) (h3 : ∀ w ∈ B, w.before args s = true) : ∀ w ∈ L, w.before args s = true := by
  intro w hw
  by_cases g : goodWord w = true
  · exact h1 w (List.mem_filter.mpr ⟨hw, g⟩)
  · refine h3 w (h2 w (List.mem_filter.mpr ⟨hw, ?_⟩))
    show (!goodWord w) = true
    cases hgw : goodWord w
    · rfl
    · exact absurd hgw g
theorem vx_c {args : Array Value} {s : State} {w : Cond} {B : List Cond} (h : w.before args s = true) (t : ∀ w ∈ B, w.before args s = true) : ∀ w' ∈ w :: B, w'.before args s = true := fun w' h' => (List.mem_cons.mp h').elim (fun e => by rw [e]; exact h) (t w')
theorem vx_n {args : Array Value} {s : State} : ∀ w ∈ ([] : List Cond), w.before args s = true := fun _ h => nomatch h
theorem vx_own {args : Array Value} {s : State} {L : List Cond} (h1 : ∀ w ∈ L.filter vx_no, w.before args s = true)
    (hU : (Cond.isRef (.static Bundle.tN "UNASSIGNED_STACK" Bundle.steD)).before args s = true) (hN : (Cond.isRef (.static Bundle.tN "SUPPRESSED_SENTINEL" Bundle.listD)).before args s = true)
    (lU : (Cond.laysStatic Bundle.tN "UNASSIGNED_STACK" Bundle.steD).before args s = true) (lN : (Cond.laysStatic Bundle.tN "SUPPRESSED_SENTINEL" Bundle.listD).before args s = true) : ∀ w ∈ L, w.before args s = true := by
  intro w hw
  by_cases e1 : w = .isRef (.static Bundle.tN "UNASSIGNED_STACK" Bundle.steD)
  · rw [e1]; exact hU
  · by_cases e2 : w = .isRef (.static Bundle.tN "SUPPRESSED_SENTINEL" Bundle.listD)
    · rw [e2]; exact hN
    · by_cases e3 : w = .laysStatic Bundle.tN "UNASSIGNED_STACK" Bundle.steD
      · rw [e3]; exact lU
      · by_cases e4 : w = .laysStatic Bundle.tN "SUPPRESSED_SENTINEL" Bundle.listD
        · rw [e4]; exact lN
        · exact h1 w (List.mem_filter.mpr ⟨hw, by unfold vx_no; rw [decide_eq_true e1, decide_eq_true e2, decide_eq_true e3, decide_eq_true e4]; rfl⟩)
/-- where a static field lies, its class's statics cell in H -/
def vx_L (C n d : String) (A : Nat → Prop) (U : State) (H : Heap) : Prop := ∃ (c : ClassId) (k : Class) (i : Nat) (f : Field) (a : Nat) (cell : Cell), U.vm.findClass C = some c ∧ U.fieldFound? C n d = some (c, k, i, f) ∧ f.isStatic = true ∧ k.statics = some a ∧ H[a]? = some cell ∧ cell.vm.isStatics = true ∧ cell.cls = c ∧ f.slot < cell.slots.size ∧ k.staticTypes[f.slot]? = some f.type ∧ ¬ A a
theorem vx_L.moved {C n d : String} {A : Nat → Prop} {u U : State} {H : Heap} (hvm : u.vm.Alike U.vm) (h : vx_L C n d A u H) : vx_L C n d A U H := by
  obtain ⟨c, k, i, f, a, cell, h1, h2, h3, h4, h5, h6, h7, h8, h9, h10⟩ := h
  obtain ⟨k', hi', he⟩ := State.fieldFound?_setVm hvm h2
  exact ⟨c, k', i, f, a, cell, by rw [hvm.findClass]; exact h1, hi', h3, by rw [he]; exact h4, h5, h6, h7, h8, by rw [he]; exact h9, h10⟩
theorem vx_L.kept {C n d : String} {A : Nat → Prop} {U : State} {H H1 : Heap} (h : vx_L C n d A U H) (hq : ∀ a : Nat, a < H.size → ¬ A a → H1[a]? = H[a]?) : vx_L C n d A U H1 := by
  obtain ⟨c, k, i, f, a, cell, h1, h2, h3, h4, h5, h6, h7, h8, h9, h10⟩ := h
  exact ⟨c, k, i, f, a, cell, h1, h2, h3, h4, by rw [hq a (Array.getElem?_eq_some_iff.mp h5).1 h10]; exact h5, h6, h7, h8, h9, h10⟩
theorem vx_L.narrow {C n d : String} {A B : Nat → Prop} {U : State} {H : Heap} (h : vx_L C n d A U H) (hAB : ∀ q, B q → A q) : vx_L C n d B U H := by
  obtain ⟨c, k, i, f, a, cell, h1, h2, h3, h4, h5, h6, h7, h8, h9, h10⟩ := h
  exact ⟨c, k, i, f, a, cell, h1, h2, h3, h4, h5, h6, h7, h8, h9, fun z => h10 (hAB _ z)⟩
theorem vx_L.word {C n d : String} {A : Nat → Prop} {s : State} {args : Array Value} (h : vx_L C n d A s s.heap) : (Cond.laysStatic C n d).before args s = true := by
  obtain ⟨c, k, i, f, a, cell, h1, h2, h3, h4, h5, h6, h7, h8, h9, -⟩ := h
  show (Cond.laysStatic C n d).holds args s none s [] = true
  exact Cond.laysStatic_of h1 h2 h3 h4 h5 h6 h7 h8 h9
/-- .. and what it holds: null or some reference -/
def vx_Zq (C n d : String) (A : Nat → Prop) (U : State) (H : Heap) : Prop := va_Zq C n d A U H ∧ vx_L C n d A U H
theorem vx_Zq.moved {C n d : String} {A : Nat → Prop} {u U : State} {H : Heap} (hvm : u.vm.Alike U.vm) (h : vx_Zq C n d A u H) : vx_Zq C n d A U H := ⟨va_Zq.moved hvm h.1, vx_L.moved hvm h.2⟩
theorem vx_Zq.kept {C n d : String} {A : Nat → Prop} {U : State} {H H1 : Heap} (h : vx_Zq C n d A U H) (hq : ∀ a : Nat, a < H.size → ¬ A a → H1[a]? = H[a]?) : vx_Zq C n d A U H1 := ⟨va_Zq.kept h.1 hq, vx_L.kept h.2 hq⟩
theorem vx_Zq.narrow {C n d : String} {A B : Nat → Prop} {U : State} {H : Heap} (h : vx_Zq C n d A U H) (hAB : ∀ q, B q → A q) : vx_Zq C n d B U H := ⟨va_Zq.narrow h.1 hAB, vx_L.narrow h.2 hAB⟩
theorem vx_Zqof {args : Array Value} {s : State} {C n d : String} {A : Nat → Prop} (hl : (Cond.laysStatic C n d).before args s = true) (hini : (Cond.initialized C).before args s = true) (h : (Cond.isRef (.static C n d)).before args s = true) (hA : ∀ a : Nat, a < s.heap.size → ¬ A a) : vx_Zq C n d A s s.heap := by
  refine ⟨va_Zqof hl hini h hA, ?_⟩
  obtain ⟨c, k, i, f, a, cell, h1, h2, h3, h4, h5, h6, h7, h8, h9⟩ := Cond.laysStatic_spec hl
  exact ⟨c, k, i, f, a, cell, h1, h2, h3, h4, h5, h6, h7, h8, h9, hA a (Array.getElem?_eq_some_iff.mp h5).1⟩
theorem vx_isRef {C n d : String} {v : Value} {A : Nat → Prop} {s : State} {args : Array Value} (h : va_Z C n d v A s s.heap) (hv : v.isRef = true) : (Cond.isRef (.static C n d)).before args s = true := by
  obtain ⟨cf, kf, fi, f, a, cell, h1, h2, h3, h4, h5, h6, h7, -⟩ := h
  have he : (Term.static C n d).eval args s none [] s = some v := by
    simp [Term.eval, State.fieldNamed?, h1, h2, h4, h5, h6, h7]
  simp only [Cond.before, Cond.holds, Cond.value, he]
  cases v <;> simp_all [Value.isRef]
theorem vx_isRefq {C n d : String} {A : Nat → Prop} {s : State} {args : Array Value} (h : va_Zq C n d A s s.heap) : (Cond.isRef (.static C n d)).before args s = true := by
  rcases h with h | ⟨t, h⟩
  · exact vx_isRef h rfl
  · exact vx_isRef h rfl
/-- the same frame, seen from here: as if the method were called anew in this heap -/
theorem vx_rebase {T : State} (X : Stand p l e R s m args below meth c T locs cells slots) {R' : Room} (hf : R'.frames ≤ R.frames) (hl : R'.locals ≤ R.locals) (hc : cells + R'.cells ≤ R.cells) (hs : slots + R'.slots ≤ R.slots) :
    Stand p l e R' ((T.setVm s.vm).setFrames (.invoking m args :: below)) m args below meth c T [] 0 0 := by
  have htop : (T.setVm s.vm).topJava?.isSome := X.here.top
  have hF : ((T.setVm s.vm).setFrames (.invoking m args :: below)).frames = .invoking m args :: below := State.frames_setFrames _ (State.cur_lt_of_top htop)
  obtain ⟨g₀, hg0⟩ := Option.isSome_iff_exists.mp htop
  obtain ⟨r, hr⟩ := State.topJava?_eq_some.mp hg0
  have hl9 : e.platform.stackLimits (T.setVm s.vm).me = e.platform.stackLimits s.me := X.limits
  have hb9 : (T.setVm s.vm).me.stackBytes = s.me.stackBytes := X.bytes
  refine ⟨X.admits, X.cas, X.clock, hF, ?_, X.hears, X.method, X.code, X.here, X.tail, X.warmed, ?_, ?_, ?_⟩
  · have h := X.room
    have hU : ((T.setVm s.vm).setFrames (.invoking m args :: below)).localsInUse = s.localsInUse := by
      rw [State.localsInUse_invoking hF (meth := meth) (c := c) X.method X.code, State.localsInUse_invoking X.frames X.method X.code]
    simp only [State.hasRoom, Bool.and_eq_true, decide_eq_true_eq] at h ⊢
    obtain ⟨⟨⟨⟨h1, h2, h3, h4, h5, h6⟩, h7⟩, h8⟩, h9⟩ := h
    rw [X.frames, List.length_cons] at h2 h3
    have q1 := X.heapSize
    have q2 := X.used
    simp only [hF, hU, List.length_cons, State.stackLimits_setFrames, State.stackBytes_setFrames, hl9, hb9]
    refine ⟨⟨⟨⟨by omega, by omega, by omega, by omega, by omega, h6⟩, ?_⟩, ?_⟩, X.book⟩
    · show T.heap.size + R'.cells ≤ e.platform.maxCells
      omega
    · show T.slotsUsed + R'.slots ≤ e.platform.maxSlots
      omega
  · rw [State.stackLimits_setFrames]; rfl
  · rw [State.stackBytes_setFrames]; rfl
  · refine ⟨?_, Nat.le_refl _, Nat.le_refl _, ?_, ?_, fun a c9 h9 => ⟨c9, h9, rfl, rfl, fun _ _ => rfl⟩⟩
    · obtain ⟨t, ht, -⟩ := State.frames_cons hr
      show T.setVm s.vm = { ((T.setVm s.vm).setFrames (.invoking m args :: below)).setFrames (T.setVm s.vm).frames with heap := T.heap, slotsUsed := T.slotsUsed }
      rw [State.setFrames_setFrames, State.setFrames_self ht]
      rfl
    · show T.slotsUsed = T.slotsUsed + ((T.heap.toList.drop T.heap.size).map (·.slots.size)).sum
      rw [List.drop_eq_nil_of_le (Nat.le_of_eq Array.length_toList)]
      rfl
    · show ((T.heap.toList.drop T.heap.size).map (·.slots.size)).sum ≤ 0
      rw [List.drop_eq_nil_of_le (Nat.le_of_eq Array.length_toList)]
      exact Nat.le_refl _
/-- 'throw new E()': new; dup; invokespecial; athrow -/
theorem vx_throw0 {cc : ByteArray} {pc : Nat} (hexec : p.tables.exec = Jvm.exec) (hb : c.code = cc) (hl : l.stackTraces = false) {own cls : String} {names : List String} {ik ic mc ms : Nat} {A : Nat → Prop}
    (hown : s.vm.findClass own = some m.cls) (hcls : Bundle.fit cls = true) (hnames : ∀ n ∈ names, Bundle.fit n = true)
    (hk : (Cond.classLink own ik cls).before args s = true) (hini : (Cond.initialized cls).before args s = true) (hat : ∀ w ∈ vx_at0 own ic cls names, w.before args s = true)
    (hgood : ∀ w ∈ Cond.classLink own ik cls :: Cond.initialized cls :: vx_at0 own ic cls names, vx_ot w = true)
    (hU : vx_Zq Bundle.tN "UNASSIGNED_STACK" Bundle.steD A s s.heap) (hN : vx_Zq Bundle.tN "SUPPRESSED_SENTINEL" Bundle.listD A s s.heap) (hS : va_S A s.heap H locs) (hsize : ls.size = c.maxLocals)
    (d0 : decode cc pc = .ok (.new ik, 3)) (d3 : decode cc (pc + 3) = .ok (.dup, 1)) (d4 : decode cc (pc + 4) = .ok (.invokespecial ic, 3)) (d7 : decode cc (pc + 7) = .ok (.athrow, 1))
    (hout : ∀ x ∈ c.exceptionTable.toList, covers x (pc + 7) = false)
    (hRframes : names.length + 3 < R.frames) (hRlocals : (rest.map fun v => v.category).sum + (13 * (names.length + 1) + 42) ≤ R.locals) (hRcells : cells + 1 ≤ R.cells) (hRslots : slots + 6 ≤ R.slots) (hlocks : meth.locks = false)
    (hx : ∀ t : State, s.vm.Alike t.vm → H.size ≤ t.heap.size → (∀ q : Nat, q < H.size → t.heap[q]? = H[q]?) → XC cls s t)
    (hf : ∀ z ∈ locs, free z.base) (hc : cells + 1 ≤ mc) (hs : slots + 6 ≤ ms) :
    W p l e R s m args below meth c H locs cells slots (vx_MQ below Qc XC args s mc ms free) (F0 m pc ls rest) := by
  intro T hT X
  have htr : e.platform.stackTraces = false := (show e.platform.stackTraces = l.stackTraces by rw [X.admits.platform]).trans hl
  have Y := vx_rebase X (R' := { frames := R.frames, locals := R.locals, cells := 1, slots := 6 }) (Nat.le_refl _) (Nat.le_refl _) hRcells hRslots
  obtain ⟨s', hA⟩ : ∃ z, z = (T.setVm s.vm).setFrames (.invoking m args :: below) := ⟨_, rfl⟩
  rw [← hA] at Y
  have hvm : s'.vm = s.vm := by rw [hA]; rfl
  have hhp : s'.heap = H := by rw [hA]; exact hT
  have hW0 : s.WarmedH s'.vm := by rw [hvm]; exact State.WarmedH.refl s
  have hat' : ∀ w ∈ vx_at0 own ic cls names, w.before args s' = true := fun w hw => vx_ot_at hW0 hvm.symm (hgood w (List.mem_cons_of_mem _ (List.mem_cons_of_mem _ hw))) (hat w hw)
  have hk' : (Cond.classLink own ik cls).before args s' = true := vx_ot_at hW0 hvm.symm (hgood _ List.mem_cons_self) hk
  have hini' : (Cond.initialized cls).before args s' = true := vx_ot_at hW0 hvm.symm (hgood _ (List.mem_cons_of_mem _ List.mem_cons_self)) hini
  have hU' : vx_Zq Bundle.tN "UNASSIGNED_STACK" Bundle.steD A s' s'.heap := by rw [hhp]; exact vx_Zq.moved hW0.alike (hU.kept hS.2.1)
  have hN' : vx_Zq Bundle.tN "SUPPRESSED_SENTINEL" Bundle.listD A s' s'.heap := by rw [hhp]; exact vx_Zq.moved hW0.alike (hN.kept hS.2.1)
  have h : ∀ w ∈ Bundle.ownAtoms0 own ic cls names, w.before args s' = true := vx_own hat' (vx_isRefq hU'.1) (vx_isRefq hN'.1) hU'.2.word hN'.2.word
  have hown' : s'.vm.findClass own = some m.cls := by rw [hvm]; exact hown
  have hins : (Cond.instantiable cls 6).before args s' = true := h _ (by simp [Bundle.ownAtoms0])
  obtain ⟨vm₁, cX, kX, hfX, hkX, -, -, X₁, st1⟩ := Y.newCold hexec (own := own) (C := cls) (index := ik) (n := 6) hown' hk' hins hini'
    (g := F0 m pc ls rest) rfl (by rw [hb]; exact d0) (Nat.le_refl _) (Nat.le_refl _)
  generalize hT1 : (T.setVm vm₁).pushCell { cls := cX, slots := kX.instanceTypes.map defaultValue, vm := .none } = T1 at X₁ st1
  have hcat : (Value.ref T.heap.size).category = 1 := rfl
  have hcellA : T1.heap[T.heap.size]? = some (freshCell cX kX) := by rw [← hT1]; exact State.heap_pushCell_size _ _
  have d3' : decode c.code (pc + 3) = .ok (.dup, 1) := by rw [hb]; exact d3
  obtain ⟨U, hsteps, hrun, hend, hW, hsame, ce, hce, hO⟩ := X₁.ctorThrow0 hexec htr (own := own) (cls := cls) (names := names) (ic := ic) hown' hcls hnames h (fun x hx => nomatch hx) hfX hkX hcellA (by rw [hhp, hT]; exact Nat.le_refl _)
    (g := { method := m, pc := pc + 4, locals := ls, stack := .ref T.heap.size :: .ref T.heap.size :: rest, locked := none }) rfl hsize rfl rfl (rest := rest) rfl
    (by rw [hb]; exact d4) (by rw [hb]; exact d7) hout hRframes (by simp only [List.map_cons, List.sum_cons, hcat]; omega) hlocks
  obtain ⟨f1, f2⟩ := vx_frame hsame
  rw [hhp] at f1 f2
  have hWs : s.WarmedH U.vm := State.WarmedH.trans hW0 hW
  have hcl : s.vm.findClass cls = some ce.cls := by
    have h9 := hO.cls
    rw [hvm] at h9
    exact h9
  have hall : s.sameButNew ({ U with vm := s.vm } : State) locs mc ms := by
    subst hA
    obtain ⟨e1, e2⟩ := hsame
    rw [State.setFrames_setFrames] at e1
    have h2 : (T.setVm s.vm).sameButNew ({ U with vm := s.vm } : State) [] (0 + 1) (0 + 6) := ⟨e1, e2⟩
    have h3 := X.same.trans h2
    rw [List.append_nil] at h3
    exact h3.mono hc hs
  refine ⟨U, ?_, .threw T.heap.size, hrun, hend, Or.inr ⟨T.heap.size, rfl, cls, ce, locs, hx U hWs.alike f1 (fun q hq => f2 q hq (fun z hz => nomatch hz)), hce, hO.vm, hcl, hWs, hall, hf⟩⟩
  refine st1 _ ?_
  show Steps p.tables e below (T1.setTop { method := m, pc := pc + 3, locals := ls, stack := .ref T.heap.size :: rest, locked := none }) _
  jvm_step X₁.here [X₁.here.top, hexec, d3', Value.category]
  exact hsteps
/-- 'throw new E("text")': new; dup; ldc; invokespecial; athrow -/
theorem vx_throwS {cc : ByteArray} {pc : Nat} (hexec : p.tables.exec = Jvm.exec) (hb : c.code = cc) (hl : l.stackTraces = false) {own cls text : String} {names : List String} {ik is ic mc ms sa : Nat} {A : Nat → Prop}
    (hown : s.vm.findClass own = some m.cls) (hcls : Bundle.fit cls = true) (hnames : ∀ n ∈ names, Bundle.fit n = true)
    (hk : (Cond.classLink own ik cls).before args s = true) (hini : (Cond.initialized cls).before args s = true) (hstr : vk_R own is text sa s) (hat : ∀ w ∈ vx_atS own ic cls names, w.before args s = true)
    (hgood : ∀ w ∈ Cond.classLink own ik cls :: Cond.initialized cls :: vx_atS own ic cls names, vx_ot w = true)
    (hU : vx_Zq Bundle.tN "UNASSIGNED_STACK" Bundle.steD A s s.heap) (hN : vx_Zq Bundle.tN "SUPPRESSED_SENTINEL" Bundle.listD A s s.heap) (hS : va_S A s.heap H locs) (hsize : ls.size = c.maxLocals)
    (d0 : decode cc pc = .ok (.new ik, 3)) (d3 : decode cc (pc + 3) = .ok (.dup, 1)) (d4 : decode cc (pc + 4) = .ok (.ldc is, 2)) (d6 : decode cc (pc + 6) = .ok (.invokespecial ic, 3)) (d9 : decode cc (pc + 9) = .ok (.athrow, 1))
    (hout : ∀ x ∈ c.exceptionTable.toList, covers x (pc + 9) = false)
    (hRframes : names.length + 3 < R.frames) (hRlocals : (rest.map fun v => v.category).sum + (13 * (names.length + 1) + 43) ≤ R.locals) (hRcells : cells + 1 ≤ R.cells) (hRslots : slots + 6 ≤ R.slots) (hlocks : meth.locks = false)
    (hx : ∀ t : State, s.vm.Alike t.vm → H.size ≤ t.heap.size → (∀ q : Nat, q < H.size → t.heap[q]? = H[q]?) → XC cls s t)
    (hf : ∀ z ∈ locs, free z.base) (hc : cells + 1 ≤ mc) (hs : slots + 6 ≤ ms) :
    W p l e R s m args below meth c H locs cells slots (vx_MQ below Qc XC args s mc ms free) (F0 m pc ls rest) := by
  intro T hT X
  have htr : e.platform.stackTraces = false := (show e.platform.stackTraces = l.stackTraces by rw [X.admits.platform]).trans hl
  have Y := vx_rebase X (R' := { frames := R.frames, locals := R.locals, cells := 1, slots := 6 }) (Nat.le_refl _) (Nat.le_refl _) hRcells hRslots
  obtain ⟨s', hA⟩ : ∃ z, z = (T.setVm s.vm).setFrames (.invoking m args :: below) := ⟨_, rfl⟩
  rw [← hA] at Y
  have hvm : s'.vm = s.vm := by rw [hA]; rfl
  have hhp : s'.heap = H := by rw [hA]; exact hT
  have hW0 : s.WarmedH s'.vm := by rw [hvm]; exact State.WarmedH.refl s
  have hat' : ∀ w ∈ vx_atS own ic cls names, w.before args s' = true := fun w hw => vx_ot_at hW0 hvm.symm (hgood w (List.mem_cons_of_mem _ (List.mem_cons_of_mem _ hw))) (hat w hw)
  have hk' : (Cond.classLink own ik cls).before args s' = true := vx_ot_at hW0 hvm.symm (hgood _ List.mem_cons_self) hk
  have hini' : (Cond.initialized cls).before args s' = true := vx_ot_at hW0 hvm.symm (hgood _ (List.mem_cons_of_mem _ List.mem_cons_self)) hini
  have hU' : vx_Zq Bundle.tN "UNASSIGNED_STACK" Bundle.steD A s' s'.heap := by rw [hhp]; exact vx_Zq.moved hW0.alike (hU.kept hS.2.1)
  have hN' : vx_Zq Bundle.tN "SUPPRESSED_SENTINEL" Bundle.listD A s' s'.heap := by rw [hhp]; exact vx_Zq.moved hW0.alike (hN.kept hS.2.1)
  have h : ∀ w ∈ Bundle.ownAtoms own ic cls names, w.before args s' = true := vx_own hat' (vx_isRefq hU'.1) (vx_isRefq hN'.1) hU'.2.word hN'.2.word
  have hown' : s'.vm.findClass own = some m.cls := by rw [hvm]; exact hown
  have hins : (Cond.instantiable cls 6).before args s' = true := h _ (by simp [Bundle.ownAtoms])
  obtain ⟨vm₁, cX, kX, hfX, hkX, -, -, X₁, st1⟩ := Y.newCold hexec (own := own) (C := cls) (index := ik) (n := 6) hown' hk' hins hini'
    (g := F0 m pc ls rest) rfl (by rw [hb]; exact d0) (Nat.le_refl _) (Nat.le_refl _)
  generalize hT1 : (T.setVm vm₁).pushCell { cls := cX, slots := kX.instanceTypes.map defaultValue, vm := .none } = T1 at X₁ st1
  have hcat : (Value.ref T.heap.size).category = 1 := rfl
  have hcellA : T1.heap[T.heap.size]? = some (freshCell cX kX) := by rw [← hT1]; exact State.heap_pushCell_size _ _
  have d3' : decode c.code (pc + 3) = .ok (.dup, 1) := by rw [hb]; exact d3
  have d4' : decode c.code (pc + 4) = .ok (.ldc is, 2) := by rw [hb]; exact d4
  have hstr' : vk_R own is text sa s' := vk_R.warm hW0 hstr
  obtain ⟨U, hsteps, hrun, hend, hW, hsame, ce, hce, hO⟩ := X₁.ctorThrowS hexec htr (own := own) (cls := cls) (names := names) (ic := ic) hown' hcls hnames h (fun x hx => nomatch hx) hfX hkX hcellA (by rw [hhp, hT]; exact Nat.le_refl _) (msg := .ref sa) rfl
    (g := { method := m, pc := pc + 6, locals := ls, stack := .ref sa :: .ref T.heap.size :: .ref T.heap.size :: rest, locked := none }) rfl hsize rfl rfl (rest := rest) rfl
    (by rw [hb]; exact d6) (by rw [hb]; exact d9) hout hRframes (by simp only [List.map_cons, List.sum_cons, hcat]; omega) hlocks
  obtain ⟨f1, f2⟩ := vx_frame hsame
  rw [hhp] at f1 f2
  have hWs : s.WarmedH U.vm := State.WarmedH.trans hW0 hW
  have hcl : s.vm.findClass cls = some ce.cls := by
    have h9 := hO.cls
    rw [hvm] at h9
    exact h9
  have hall : s.sameButNew ({ U with vm := s.vm } : State) locs mc ms := by
    subst hA
    obtain ⟨e1, e2⟩ := hsame
    rw [State.setFrames_setFrames] at e1
    have h2 : (T.setVm s.vm).sameButNew ({ U with vm := s.vm } : State) [] (0 + 1) (0 + 6) := ⟨e1, e2⟩
    have h3 := X.same.trans h2
    rw [List.append_nil] at h3
    exact h3.mono hc hs
  refine ⟨U, ?_, .threw T.heap.size, hrun, hend, Or.inr ⟨T.heap.size, rfl, cls, ce, locs, hx U hWs.alike f1 (fun q hq => f2 q hq (fun z hz => nomatch hz)), hce, hO.vm, hcl, hWs, hall, hf⟩⟩
  refine st1 _ ?_
  show Steps p.tables e below (T1.setTop { method := m, pc := pc + 3, locals := ls, stack := .ref T.heap.size :: rest, locked := none }) _
  jvm_step X₁.here [X₁.here.top, hexec, d3', Value.category]
  exact X₁.ldcString hexec (own := own) (text := text) (index := is) (a := sa) hown' hstr'.1 hstr'.2
    (g := { method := m, pc := pc + 4, locals := ls, stack := .ref T.heap.size :: .ref T.heap.size :: rest, locked := none }) rfl d4' _ hsteps
/-- 'throw new E("text")', the text by a wide index -/
theorem vx_throwSW {cc : ByteArray} {pc : Nat} (hexec : p.tables.exec = Jvm.exec) (hb : c.code = cc) (hl : l.stackTraces = false) {own cls text : String} {names : List String} {ik is ic mc ms sa : Nat} {A : Nat → Prop}
    (hown : s.vm.findClass own = some m.cls) (hcls : Bundle.fit cls = true) (hnames : ∀ n ∈ names, Bundle.fit n = true)
    (hk : (Cond.classLink own ik cls).before args s = true) (hini : (Cond.initialized cls).before args s = true) (hstr : vk_R own is text sa s) (hat : ∀ w ∈ vx_atS own ic cls names, w.before args s = true)
    (hgood : ∀ w ∈ Cond.classLink own ik cls :: Cond.initialized cls :: vx_atS own ic cls names, vx_ot w = true)
    (hU : vx_Zq Bundle.tN "UNASSIGNED_STACK" Bundle.steD A s s.heap) (hN : vx_Zq Bundle.tN "SUPPRESSED_SENTINEL" Bundle.listD A s s.heap) (hS : va_S A s.heap H locs) (hsize : ls.size = c.maxLocals)
    (d0 : decode cc pc = .ok (.new ik, 3)) (d3 : decode cc (pc + 3) = .ok (.dup, 1)) (d4 : decode cc (pc + 4) = .ok (.ldc_w is, 3)) (d7 : decode cc (pc + 7) = .ok (.invokespecial ic, 3)) (d10 : decode cc (pc + 10) = .ok (.athrow, 1))
    (hout : ∀ x ∈ c.exceptionTable.toList, covers x (pc + 10) = false)
    (hRframes : names.length + 3 < R.frames) (hRlocals : (rest.map fun v => v.category).sum + (13 * (names.length + 1) + 43) ≤ R.locals) (hRcells : cells + 1 ≤ R.cells) (hRslots : slots + 6 ≤ R.slots) (hlocks : meth.locks = false)
    (hx : ∀ t : State, s.vm.Alike t.vm → H.size ≤ t.heap.size → (∀ q : Nat, q < H.size → t.heap[q]? = H[q]?) → XC cls s t)
    (hf : ∀ z ∈ locs, free z.base) (hc : cells + 1 ≤ mc) (hs : slots + 6 ≤ ms) :
    W p l e R s m args below meth c H locs cells slots (vx_MQ below Qc XC args s mc ms free) (F0 m pc ls rest) := by
  intro T hT X
  have htr : e.platform.stackTraces = false := (show e.platform.stackTraces = l.stackTraces by rw [X.admits.platform]).trans hl
  have Y := vx_rebase X (R' := { frames := R.frames, locals := R.locals, cells := 1, slots := 6 }) (Nat.le_refl _) (Nat.le_refl _) hRcells hRslots
  obtain ⟨s', hA⟩ : ∃ z, z = (T.setVm s.vm).setFrames (.invoking m args :: below) := ⟨_, rfl⟩
  rw [← hA] at Y
  have hvm : s'.vm = s.vm := by rw [hA]; rfl
  have hhp : s'.heap = H := by rw [hA]; exact hT
  have hW0 : s.WarmedH s'.vm := by rw [hvm]; exact State.WarmedH.refl s
  have hat' : ∀ w ∈ vx_atS own ic cls names, w.before args s' = true := fun w hw => vx_ot_at hW0 hvm.symm (hgood w (List.mem_cons_of_mem _ (List.mem_cons_of_mem _ hw))) (hat w hw)
  have hk' : (Cond.classLink own ik cls).before args s' = true := vx_ot_at hW0 hvm.symm (hgood _ List.mem_cons_self) hk
  have hini' : (Cond.initialized cls).before args s' = true := vx_ot_at hW0 hvm.symm (hgood _ (List.mem_cons_of_mem _ List.mem_cons_self)) hini
  have hU' : vx_Zq Bundle.tN "UNASSIGNED_STACK" Bundle.steD A s' s'.heap := by rw [hhp]; exact vx_Zq.moved hW0.alike (hU.kept hS.2.1)
  have hN' : vx_Zq Bundle.tN "SUPPRESSED_SENTINEL" Bundle.listD A s' s'.heap := by rw [hhp]; exact vx_Zq.moved hW0.alike (hN.kept hS.2.1)
  have h : ∀ w ∈ Bundle.ownAtoms own ic cls names, w.before args s' = true := vx_own hat' (vx_isRefq hU'.1) (vx_isRefq hN'.1) hU'.2.word hN'.2.word
  have hown' : s'.vm.findClass own = some m.cls := by rw [hvm]; exact hown
  have hins : (Cond.instantiable cls 6).before args s' = true := h _ (by simp [Bundle.ownAtoms])
  obtain ⟨vm₁, cX, kX, hfX, hkX, -, -, X₁, st1⟩ := Y.newCold hexec (own := own) (C := cls) (index := ik) (n := 6) hown' hk' hins hini'
    (g := F0 m pc ls rest) rfl (by rw [hb]; exact d0) (Nat.le_refl _) (Nat.le_refl _)
  generalize hT1 : (T.setVm vm₁).pushCell { cls := cX, slots := kX.instanceTypes.map defaultValue, vm := .none } = T1 at X₁ st1
  have hcat : (Value.ref T.heap.size).category = 1 := rfl
  have hcellA : T1.heap[T.heap.size]? = some (freshCell cX kX) := by rw [← hT1]; exact State.heap_pushCell_size _ _
  have d3' : decode c.code (pc + 3) = .ok (.dup, 1) := by rw [hb]; exact d3
  have d4' : decode c.code (pc + 4) = .ok (.ldc_w is, 3) := by rw [hb]; exact d4
  have hstr' : vk_R own is text sa s' := vk_R.warm hW0 hstr
  obtain ⟨U, hsteps, hrun, hend, hW, hsame, ce, hce, hO⟩ := X₁.ctorThrowS hexec htr (own := own) (cls := cls) (names := names) (ic := ic) hown' hcls hnames h (fun x hx => nomatch hx) hfX hkX hcellA (by rw [hhp, hT]; exact Nat.le_refl _) (msg := .ref sa) rfl
    (g := { method := m, pc := pc + 7, locals := ls, stack := .ref sa :: .ref T.heap.size :: .ref T.heap.size :: rest, locked := none }) rfl hsize rfl rfl (rest := rest) rfl
    (by rw [hb]; exact d7) (by rw [hb]; exact d10) hout hRframes (by simp only [List.map_cons, List.sum_cons, hcat]; omega) hlocks
  obtain ⟨f1, f2⟩ := vx_frame hsame
  rw [hhp] at f1 f2
  have hWs : s.WarmedH U.vm := State.WarmedH.trans hW0 hW
  have hcl : s.vm.findClass cls = some ce.cls := by
    have h9 := hO.cls
    rw [hvm] at h9
    exact h9
  have hall : s.sameButNew ({ U with vm := s.vm } : State) locs mc ms := by
    subst hA
    obtain ⟨e1, e2⟩ := hsame
    rw [State.setFrames_setFrames] at e1
    have h2 : (T.setVm s.vm).sameButNew ({ U with vm := s.vm } : State) [] (0 + 1) (0 + 6) := ⟨e1, e2⟩
    have h3 := X.same.trans h2
    rw [List.append_nil] at h3
    exact h3.mono hc hs
  refine ⟨U, ?_, .threw T.heap.size, hrun, hend, Or.inr ⟨T.heap.size, rfl, cls, ce, locs, hx U hWs.alike f1 (fun q hq => f2 q hq (fun z hz => nomatch hz)), hce, hO.vm, hcl, hWs, hall, hf⟩⟩
  refine st1 _ ?_
  show Steps p.tables e below (T1.setTop { method := m, pc := pc + 3, locals := ls, stack := .ref T.heap.size :: rest, locked := none }) _
  jvm_step X₁.here [X₁.here.top, hexec, d3', Value.category]
  exact X₁.ldcStringW hexec (own := own) (text := text) (index := is) (a := sa) hown' hstr'.1 hstr'.2
    (g := { method := m, pc := pc + 4, locals := ls, stack := .ref T.heap.size :: .ref T.heap.size :: rest, locked := none }) rfl d4' _ hsteps
end Ends
section Bodies
variable {l : Launch}
theorem vx_ofW {y : MethodName} {ws ws' : List Cond} {rm : Room} {Pc : Array Value → State → Prop} {Qc : Array Value → State → Outcome → State → Prop} {XC : String → State → State → Prop} {mc ms : Nat} {free : Addr → Prop} {cc : ByteArray} {maxL : Nat} {ret : Option FieldType}
    (hy : plainName y.cls = true) (hw : ws = Cond.code y cc maxL ret :: ws')
    (body : ∀ p e s m args below meth c s₁, BodyLoose p l y (headSpec ws rm) cc maxL ret e s m args below meth c s₁ → c.maxLocals = maxL → (∀ x ∈ c.exceptionTable.toList, False) → Pc args s →
      W p l e (headSpec ws rm).room s m args below meth c s.heap [] 0 0 (vx_MQ below Qc XC args s mc ms free) (entryFrame m args maxL)) : vx_Met l y ws rm Pc Qc XC mc ms free := by
  refine MetFree.of_bodyS (code := cc) (maxLocals := maxL) (ret := ret) hy ?_ ?_
  · intro args s m h hn
    obtain ⟨meth, c, h1, h2, h3, h4, h5, h6, -, -⟩ := Cond.code_spec hn (atoms_spec (ws := ws) h _ (by rw [hw]; exact List.mem_cons_self))
    exact ⟨meth, c, h1, h2, h3, h4, h5, h6⟩
  · intro p e s m args below meth c s₁ B hml hP _
    have hh0 : s₁.heap = s.heap := by rw [B.state]; rfl
    have ht : ∀ x ∈ c.exceptionTable.toList, False := by
      obtain ⟨meth9, c9, h1, h2, -, -, -, -, h7, -⟩ := Cond.code_spec B.named (atoms_spec (ws := ws) B.pre _ (by rw [hw]; exact List.mem_cons_self))
      cases Option.some.inj (h1.symm.trans B.method)
      cases Option.some.inj (h2.symm.trans (Stand.of_body B).code)
      intro x hx
      rw [Array.isEmpty_iff.mp h7] at hx
      cases hx
    obtain ⟨t, a1, o, b1, b2, b3⟩ := body p e s m args below meth c s₁ B hml ht hP s₁ hh0 (Stand.of_body B)
    exact ⟨t, o, a1, b1, b2, b3⟩
/-- the table of a body with handlers -/
theorem vx_table {p : Program} {x y : MethodName} {S : Spec} {cc bytes : ByteArray} {maxL maxL' : Nat} {ret ret' : Option FieldType} {e : Env} {s s₁ : State} {m : MethodId} {args : Array Value} {below : List Frame} {meth : Method} {c : Code} {hh : List (Nat × Nat × Nat × Nat)}
    (B : BodyLoose p l y S cc maxL ret e s m args below meth c s₁) (h : (Cond.codeWith y bytes maxL' ret' hh).before args s = true) : c.exceptionTable.toList = tableOf hh := by
  obtain ⟨m9, meth9, c9, hn9, h1, h2, -, -, h6, -⟩ := Cond.codeWith_spec h
  cases Option.some.inj (hn9.symm.trans B.named)
  cases Option.some.inj (h1.symm.trans B.method)
  cases Option.some.inj (h2.symm.trans (Stand.of_body B).code)
  rw [← h6, table_eq]
end Bodies
end VXA
/-! ===== END ===== -/
/-! ===== BEGIN a static call of a method with an exception table ===== -/
section VXS
variable {p : Program} {l : Launch} {e : Env} {R : Room} {s : State} {m : MethodId} {args : Array Value} {below : List Frame} {meth : Method} {c : Code} {T : State} {H : Heap} {locs : List Loc} {cells slots : Nat}
abbrev vx_CSW (R : Room) (s : State) (args : Array Value) (own : String) (index : Nat) (y : MethodName) (bytes : ByteArray) (maxL : Nat) (ret : Option FieldType) (hh : List (Nat × Nat × Nat × Nat)) (ws : List Cond) (rm : Room) (mc ms n : Nat) : Prop :=
  (rm.cells = mc ∧ rm.slots = ms ∧ rm.frames + 1 ≤ R.frames ∧ 8 + (maxL + 11) + rm.locals ≤ R.locals ∧ (∀ w ∈ ws, ∀ (a' : Array Value) (U : State), s.WarmedH U.vm → w.before a' U = true) ∧ Cond.codeWith y bytes maxL ret hh ∈ ws) ∧
  (Cond.codeWith y bytes maxL ret hh).before args s = true ∧ (Cond.initialized y.cls).before args s = true ∧ (y.cls ≠ "java/lang/invoke/MethodHandle" ∧ y.cls ≠ "java/lang/invoke/VarHandle") ∧
  (∀ sig, parseMethodDescriptor y.desc = some sig → n = sig.parameters.length) ∧ (Cond.methodLink own index y).before args s = true ∧ (Cond.static y).before args s = true
theorem vx_cwSW {own : String} {index maxL mc ms : Nat} {y : MethodName} {bytes : ByteArray} {ret : Option FieldType} {hh : List (Nat × Nat × Nat × Nat)} {Ts ws ws' : List Cond} {rm : Room} (n : Nat) (ht : ∀ w ∈ Ts, w.before args s = true) (hT : GoodIn Ts (va_wsS own index y ws)) (hw : ws = Cond.codeWith y bytes maxL ret hh :: ws') (hrc : rm.cells = mc) (hrs : rm.slots = ms)
    (hd : y.cls ≠ "java/lang/invoke/MethodHandle" ∧ y.cls ≠ "java/lang/invoke/VarHandle" ∧ (parseMethodDescriptor y.desc).map (fun d => d.parameters.length) = some n) (hR : rm.frames + 1 ≤ R.frames ∧ 8 + (maxL + 11) + rm.locals ≤ R.locals) :
    vx_CSW R s args own index y bytes maxL ret hh ws rm mc ms n := by
  have ok : ∀ w ∈ va_wsS own index y ws, w.before args s = true := fun w h => ht w (hT w h).1
  have hG : GoodIn Ts ws := fun w h => hT w (by unfold va_wsS; exact List.mem_append_right _ h)
  have hc : Cond.codeWith y bytes maxL ret hh ∈ ws := by rw [hw]; exact List.mem_cons_self
  refine ⟨⟨hrc, hrs, hR.1, hR.2, pay_in ht hG, hc⟩, ht _ (hG _ hc).1, ok _ (by simp [va_wsS]), ⟨hd.1, hd.2.1⟩, fun sig h => ?_, ok _ (by simp [va_wsS]), ok _ (by simp [va_wsS])⟩
  have h2 := hd.2.2
  rw [h] at h2
  exact (Option.some.inj h2).symm
theorem vx_callSW (X : Stand p l e R s m args below meth c T locs cells slots) (hexec : p.tables.exec = Jvm.exec) {own : String} {index : Nat} {y : MethodName} {bytes : ByteArray} {maxL : Nat} {ret : Option FieldType} {hh : List (Nat × Nat × Nat × Nat)}
    (hown : s.vm.findClass own = some m.cls) (hlink : (Cond.methodLink own index y).before args s = true) (hstat : (Cond.static y).before args s = true) (hinit : (Cond.initialized y.cls).before args s = true)
    (hcode : (Cond.codeWith y bytes maxL ret hh).before args s = true) (hy : y.cls ≠ "java/lang/invoke/MethodHandle" ∧ y.cls ≠ "java/lang/invoke/VarHandle")
    {W9 : Nat} {Pre : Pt → Array Value → Prop} {Post : Pt → Array Value → Option Value → Pt → Prop} (hK : Back l R p e below s args y 3 W9 Pre Post)
    {g : JFrame} (hg : g.method = m) (hsize : g.locals.size = c.maxLocals) {argsL rest : List Value} (hlen : ∀ sig, parseMethodDescriptor y.desc = some sig → argsL.length = sig.parameters.length)
    (hstack : g.stack = argsL.reverse ++ rest) (hW : 2 * g.monitorRoom + (rest.map fun v => v.category).sum ≤ W9) (hdg : decode c.code g.pc = .ok (.invokestatic index, 3))
    (hpre : ∀ vm₁, s.WarmedH vm₁ → Pre ⟨T.setVm vm₁, locs, cells, slots⟩ argsL.toArray) :
    ∃ (v : Option Value) (vm₁ : Vm) (B : Pt), s.WarmedH vm₁ ∧ Stand p l e R s m args below meth c B.U B.locs B.cells B.slots ∧ Post ⟨T.setVm vm₁, locs, cells, slots⟩ argsL.toArray v B ∧
      ∀ target, Steps p.tables e below (B.U.setTop { g with pc := g.pc + 3, stack := v.toList ++ rest }) target → Steps p.tables e below (T.setTop g) target := by
  obtain ⟨mk, methM, cM, hnamed, hmethM, -, -, -, -, -, -, hsigM⟩ := Cond.codeWith_spec hcode
  have hstatic : methM.isStatic = true := Cond.static_spec hnamed hmethM hstat
  obtain ⟨kP, hkP, -⟩ := className_of_methodNamed hnamed
  have hinitP : kP.init = .initialized := Cond.initialized_spec (findClass_of_methodNamed hnamed) hkP hinit
  obtain ⟨vm₁, X₁, hstep₁⟩ := X.invokestatic hexec hown hlink hnamed hmethM hstatic hkP hinitP hy (g := g) hg (argsL := argsL) (rest := rest) (hlen _ hsigM) hstack hdg
  obtain ⟨v, B, X', hpost, hsteps⟩ := hK m meth c ⟨T.setVm vm₁, locs, cells, slots⟩ { g with stack := rest } (.invokestatic index) mk argsL.toArray X₁ hg hsize hdg hW (X₁.named hnamed) (hpre vm₁ X₁.warmed)
  exact ⟨v, vm₁, B, X₁.warmed, X', hpost, fun target h => hstep₁ _ fun acts => by rw [doInvoke_state]; exact hsteps.trans h⟩
theorem vx_runSW {y : MethodName} {bytes cc : ByteArray} {maxL nL mc ms n index : Nat} {ret : Option FieldType} {hh : List (Nat × Nat × Nat × Nat)} {ws : List Cond} {rm : Room} {Pc : Array Value → State → Prop} {Qc : Array Value → State → Outcome → State → Prop} {free : Addr → Prop} {Ts : List Cond} {own : String} {As rest : List Value} {g : JFrame}
    (S : CallFix p m c cc nL s args Ts own) (hM : Met l y ws rm Pc Qc mc ms free) (cw : vx_CSW R s args own index y bytes maxL ret hh ws rm mc ms n) (hp : PreS s H Pc As)
    (hg : g.method = m) (hn : As.length = n) (hsize : g.locals.size = nL) (hstack : g.stack = As.reverse ++ rest) (hW : 2 * g.monitorRoom + (rest.map fun v => v.category).sum ≤ 8) (hdg : decode cc g.pc = .ok (.invokestatic index, 3)) (hf : cells + mc ≤ R.cells ∧ slots + ms ≤ R.slots) :
    va_Run p l e R s m args below meth c H locs cells slots mc ms g rest (Qc As.toArray) (free) := by
  obtain ⟨⟨hrc, hrs, hfr, hlo, hws, hcw⟩, hcode, hini, hy, hlen, hl, hstt⟩ := cw
  have hK : Back l R p e below s args y 3 8 (PreOf R mc ms Pc) (PostOf Qc mc ms free) := va_backW (hh := hh) (bytes := bytes) (maxL := maxL) (ret := ret) hM hp.1 hrc hrs hfr hlo hws hcw (fun a' U hW => word_at hW (Or.inl (by first | rfl | simp [Cond.onTables, Cond.keeps, Cond.steady])) hini)
  obtain ⟨hx, hb, hml, ho, -⟩ := S
  intro T hT X
  obtain ⟨v, vm₁, ⟨U', l2, c2, s2⟩, hW₁, X', ⟨g', mk, t, L, e1, e2, hq, h1, hL, h2, h3⟩, st⟩ := vx_callSW X hx (hh := hh) (bytes := bytes) (maxL := maxL) (ret := ret) ho hl hstt hini hcode hy hK hg (hsize.trans hml.symm) (argsL := As) (rest := rest) (fun sig h => hn.trans (hlen sig h)) hstack hW (by rw [hb]; exact hdg)
    (fun vm₁ hW₁ => ⟨hf.1, hf.2, hp.2 (T.setVm vm₁) hT hW₁⟩)
  dsimp only [Pt.U, Pt.locs, Pt.cells, Pt.slots] at X' e1 e2 h1 h2 h3 st
  subst h1; subst h2; subst h3
  exact ⟨v, (T.setVm vm₁).calling g' mk As.toArray, t, U', L, hT, X', hL, e1, e2, hq, st⟩
/-- not caught here, past rows that name other classes: it goes on to the caller -/
theorem vx_outP {p : Program} {l : Launch} {e : Env} {R : Room} {s : State} {m : MethodId} {args : Array Value} {below : List Frame} {meth : Method} {c : Code} {H : Heap} {locs : List Loc} {cells slots : Nat} {free : Addr → Prop} {ls : Array Slot} {rest : List Value} {Qc : Array Value → State → Outcome → State → Prop} {XC : String → State → State → Prop}
    {pc : Nat} {own E : String} {ce : Cell} {q : Addr} {mc ms : Nat} (hown : s.vm.findClass own = some m.cls) (hlocks : meth.locks = false)
    (hpass : ∀ z ∈ c.exceptionTable.toList, covers z pc = false ∨ (z.catchType ≠ 0 ∧ ∃ nm : String, (Cond.classLink own z.catchType nm).before args s = true ∧ va_Nc E nm s)) (hcell : H[q]? = some ce) (hv : ce.vm = .none) (hcl : s.vm.findClass E = some ce.cls)
    (hx : ∀ t : State, t.heap = H → s.vm.Alike t.vm → XC E s t) (hf : ∀ z ∈ locs, free z.base) (hc : cells ≤ mc) (hs : slots ≤ ms) :
    vx_W p l e R s m args below meth c H locs cells slots (vx_MQ below Qc XC args s mc ms free) (F0 m pc ls rest) q := by
  intro T hT X
  have hpl : e.platform.magicAccessors = ({} : Platform).magicAccessors := by rw [X.admits.platform]
  obtain ⟨vm', hW', X', st⟩ := X.outThrough hlocks q (g := F0 m pc ls rest) rfl rfl rfl (cell := ce) (by rw [hT]; exact hcell) (by rw [hv]; rfl)
    (by obtain ⟨k9, h9, -⟩ := Vm.findClass_spec hcl; exact ⟨k9, h9⟩) (fun z hz => by
      rcases hpass z hz with h | ⟨hz0, nm, hl1, hn1⟩
      · exact Or.inl h
      · obtain ⟨c6, hc6, hcl6⟩ := Cond.classLink_spec hown hl1 e.platform hpl
        obtain ⟨a8, b8, h1, h2, h3⟩ := hn1
        cases Option.some.inj (h1.symm.trans hcl)
        cases Option.some.inj (h2.symm.trans hc6)
        exact Or.inr ⟨hz0, _, hcl6, h3⟩)
  obtain ⟨g₀, hfr⟩ := X'.frames_eq
  have hcell9 : ((T.setVm vm').setFrames (.throwing q :: below)).heap[q]? = some ce := by
    show T.heap[q]? = some ce
    rw [hT]; exact hcell
  have hend : Ended ((T.setVm vm').setFrames (.throwing q :: below)) below (.threw q) := State.frames_setFrames _ (State.cur_lt_of_frames hfr)
  refine ⟨(T.setVm vm').setFrames (.throwing q :: below), ?_, .threw q, X'.here.running, hend, Or.inr ⟨q, rfl, E, ce, locs, hx _ hT (X'.ends _).1.alike, hcell9, hv, hcl, (X'.ends _).1, (X'.ends _).2.mono hc hs, hf⟩⟩
  rw [X.pushThrowing_eq]
  exact st
/-- a thing of a world lies in the heap -/
theorem vx_lt {D : va_G} {cl : List vw_C} {ws : va_W} {H1 : Heap} (h : va_P D cl ws H1) {k : Nat} {q : Nat × va_E} (hk : ws[k]? = some q) : q.1 < H1.size := (h k q hk).lt
end VXS
/-! ===== END ===== -/
/-! ===== BEGIN methods with a table of their own: called by a name, returning or throwing ===== -/
section VXH
/-! vx_backW, vx_callVX, vx_callSX, vx_callVW, vx_runVW, vx_runVX, vx_runSX, vx_ofWH follow the same proofs as their sisters above (Free/Laws.lean, Shelf42/LK1.lean); vx_outP calls Shelf42/NT130.lean (outThrough). -/
section
variable {l : Launch} {R : Room} {p : Program} {e : Env} {below : List Frame} {s : State} {sargs : Array Value} {y : MethodName} {len W9 : Nat}
theorem vx_backW {ws : List Cond} {rm : Room} {Pc : Array Value → State → Prop} {Qc : Array Value → State → Outcome → State → Prop} {XC : String → State → State → Prop} {mc ms : Nat} {free : Addr → Prop} {bytes : ByteArray} {maxL : Nat} {ret : Option FieldType} {hh : List (Nat × Nat × Nat × Nat)}
    (hM : vx_Met l y ws rm Pc Qc XC mc ms free) (hblind : FrameBlind Pc) (hrc : rm.cells = mc) (hrs : rm.slots = ms)
    (hframes : rm.frames + 1 ≤ R.frames) (hlocals : W9 + (maxL + 11) + rm.locals ≤ R.locals)
    (hws : ∀ w ∈ ws, ∀ a' U, s.WarmedH U.vm → w.before a' U = true) (hcode : Cond.codeWith y bytes maxL ret hh ∈ ws) (hinit : ∀ a' U, s.WarmedH U.vm → (Cond.initialized y.cls).before a' U = true) :
    vx_Back l R p e below s sargs y len W9 (PreOf R mc ms Pc) (PostOf Qc mc ms free) (vx_Post XC mc ms free) := by
  intro m meth c A g ig mk a X hg hsize hdg hW hn hp
  have h1 : (headSpec ws rm).pre.before a A.U = true := atoms_intro fun w hw => hws w hw _ _ X.warmed
  have h2 : (Cond.codeWith y bytes maxL ret hh).before a A.U = true := hws _ hcode _ _ X.warmed
  have h3 : (Cond.initialized y.cls).before a A.U = true := hinit _ _ X.warmed
  have h4 : A.cells + (headSpec ws rm).room.cells ≤ R.cells := by rw [show (headSpec ws rm).room.cells = mc from hrc]; exact hp.1
  have h5 : A.slots + (headSpec ws rm).room.slots ≤ R.slots := by rw [show (headSpec ws rm).room.slots = ms from hrs]; exact hp.2.1
  have hPc : Pc a (A.U.calling g mk a) := hblind _ _ _ _ hp.2.2
  obtain ⟨U, Ls, c0, s0⟩ := A
  dsimp only [Pt.U, Pt.locs, Pt.cells, Pt.slots] at h1 h2 h3 h4 h5 X hn hPc ⊢
  obtain ⟨m9, methY, cY, hn9, hmY, hcY, -, hlY, -⟩ := Cond.codeWith_spec h2
  cases Option.some.inj (hn9.symm.trans hn)
  obtain ⟨kY, hkY, -⟩ := className_of_methodNamed hn
  have hinitY : kY.init = .initialized := Cond.initialized_spec (findClass_of_methodNamed hn) hkY h3
  have h : At U g.method c below := by rw [hg]; exact X.here
  have hlocals9 : W9 + (maxL + 11) + (headSpec ws rm).room.locals ≤ R.locals := hlocals
  have happ : (headSpec ws rm).appliesLoose y e.platform (U.calling g mk a) = true :=
    Spec.appliesLoose_calling (g := g) h hdg hn hkY hinitY
      (X.room_calling (g := g) (R' := (headSpec ws rm).room) hsize hmY hcY hframes (by rw [hlY]; omega) h4 h5) h1
  obtain ⟨mid, hmid⟩ := h.above
  have hfr : (U.setTop g).frames = (.java g :: mid) ++ below := by rw [State.frames_setTop' g h.top, hmid]; rfl
  obtain ⟨o, s₂, hsteps, -, hend, hq⟩ := Steps.callFree hM p X.admits X.cas X.clock (acts := []) hfr happ hPc trivial
  have hq' : vx_Q Qc XC mc ms free a (U.calling g mk a) o s₂ := hq
  rw [State.frames_setTop' g h.top] at hend
  obtain ⟨g₀, hg0⟩ := Option.isSome_iff_exists.mp h.top
  obtain ⟨r, hr⟩ := State.topJava?_eq_some.mp hg0
  have hr' : (({ U with heap := s₂.heap, slotsUsed := s₂.slotsUsed } : State).setVm s₂.vm).frames = .java g₀ :: r := hr
  rcases hq' with ⟨hqc, L, hfe, hL⟩ | ⟨q, rfl, E, ce, L, hx, hce, hcv, hcl, hW₂, hsm, hL⟩
  · obtain ⟨⟨v, rfl⟩, hW₂, e2, q2, q3, q4, q5, q6⟩ := id hfe
    have e3 : s₂ = ({ (U.calling g mk a).setFrames s₂.frames with heap := s₂.heap, slotsUsed := s₂.slotsUsed } : State).setVm s₂.vm := by
      have : s₂ = ({ s₂ with vm := (U.calling g mk a).vm } : State).setVm s₂.vm := rfl
      rw [e2] at this
      exact this
    obtain ⟨c₂, i₂, len₂, hc₂, hd₂, hf₂⟩ := hend
    have hW' : U.WarmedH s₂.vm := hW₂
    have hcc : c₂ = c := by
      have h1 : s₂.code? g.method = U.code? g.method := by
        rw [State.code?_eq, State.code?_eq, hW'.alike.method?]
      exact Option.some.inj (hc₂.symm.trans (h1.trans h.code))
    subst hcc
    have hlen : len₂ = len := by rw [hdg] at hd₂; cases hd₂; rfl
    subst hlen
    have hs₂ : s₂ = (({ U with heap := s₂.heap, slotsUsed := s₂.slotsUsed } : State).setVm s₂.vm).setTop { g with pc := g.pc + len₂, stack := v.toList ++ g.stack } := by
      refine e3.trans ?_
      rw [hf₂, State.calling_eq h.top, State.setFrames_setFrames, State.setTop_of_frames _ hr', hr]
      rfl
    have hsame : U.sameButNew ({ U with heap := s₂.heap, slotsUsed := s₂.slotsUsed } : State) L mc ms := by
      refine ⟨?_, q2, q3, q4, q5, q6⟩
      obtain ⟨t, ht, -⟩ := State.frames_cons hr
      show ({ U with heap := s₂.heap, slotsUsed := s₂.slotsUsed } : State) = { U.setFrames U.frames with heap := s₂.heap, slotsUsed := s₂.slotsUsed }
      rw [State.setFrames_self ht]
    subst hg
    refine Or.inl ⟨v, ⟨(({ U with heap := s₂.heap, slotsUsed := s₂.slotsUsed } : State).setVm s₂.vm), Ls ++ L, c0 + mc, s0 + ms⟩,
      ⟨X.admits, X.cas, X.clock, X.frames, X.room, X.hears, X.method, X.code, (X.here.setHeapUsed s₂.heap s₂.slotsUsed).setVm hW'.alike, X.tail, State.WarmedH.trans X.warmed hW', X.limits, X.bytes, X.same.trans (hsame.setVm s.vm)⟩,
      ⟨g, mk, s₂, L, rfl, rfl, hqc, rfl, hL, rfl, rfl⟩, ?_⟩
    show Steps p.tables e below _ ((({ U with heap := s₂.heap, slotsUsed := s₂.slotsUsed } : State).setVm s₂.vm).setTop { g with pc := g.pc + len₂, stack := v.toList ++ g.stack })
    rw [← hs₂]
    exact hsteps
  · obtain ⟨e2, q2, q3, q4, q5, q6⟩ := id hsm
    have e3 : s₂ = ({ (U.calling g mk a).setFrames s₂.frames with heap := s₂.heap, slotsUsed := s₂.slotsUsed } : State).setVm s₂.vm := by
      have : s₂ = ({ s₂ with vm := (U.calling g mk a).vm } : State).setVm s₂.vm := rfl
      rw [e2] at this
      exact this
    have hf₂ : s₂.frames = .throwing q :: .java g :: U.frames.tail := hend
    have hW' : U.WarmedH s₂.vm := hW₂
    have hs₂ : s₂ = ((({ U with heap := s₂.heap, slotsUsed := s₂.slotsUsed } : State).setVm s₂.vm).setTop g).pushFrame (.throwing q) := by
      refine e3.trans ?_
      rw [hf₂, State.calling_eq h.top, State.setFrames_setFrames, State.pushFrame, State.frames_setTop _ hr', State.setTop_of_frames _ hr', State.setFrames_setFrames, hr]
      rfl
    have hsame : U.sameButNew ({ U with heap := s₂.heap, slotsUsed := s₂.slotsUsed } : State) L mc ms := by
      refine ⟨?_, q2, q3, q4, q5, q6⟩
      obtain ⟨t, ht, -⟩ := State.frames_cons hr
      show ({ U with heap := s₂.heap, slotsUsed := s₂.slotsUsed } : State) = { U.setFrames U.frames with heap := s₂.heap, slotsUsed := s₂.slotsUsed }
      rw [State.setFrames_self ht]
    subst hg
    refine Or.inr ⟨q, ⟨(({ U with heap := s₂.heap, slotsUsed := s₂.slotsUsed } : State).setVm s₂.vm), Ls ++ L, c0 + mc, s0 + ms⟩,
      ⟨X.admits, X.cas, X.clock, X.frames, X.room, X.hears, X.method, X.code, (X.here.setHeapUsed s₂.heap s₂.slotsUsed).setVm hW'.alike, X.tail, State.WarmedH.trans X.warmed hW', X.limits, X.bytes, X.same.trans (hsame.setVm s.vm)⟩,
      ⟨g, mk, s₂, L, E, ce, rfl, rfl, hx, hce, hcv, hcl, rfl, hL, rfl, rfl⟩, ?_⟩
    show Steps p.tables e below _ (((({ U with heap := s₂.heap, slotsUsed := s₂.slotsUsed } : State).setVm s₂.vm).setTop g).pushFrame (.throwing q))
    rw [← hs₂]
    exact hsteps
end
variable {p : Program} {l : Launch} {e : Env} {R : Room} {s : State} {m : MethodId} {args : Array Value} {below : List Frame} {meth : Method} {c : Code} {T : State} {H : Heap} {locs : List Loc} {cells slots : Nat}
theorem vx_callVX (X : Stand p l e R s m args below meth c T locs cells slots) (hexec : p.tables.exec = Jvm.exec) {own C : String} {index : Nat} {y : MethodName} {bytes : ByteArray} {maxL : Nat} {ret : Option FieldType} {hh : List (Nat × Nat × Nat × Nat)}
    (hown : s.vm.findClass own = some m.cls) (hlink : (Cond.methodLink own index y).before args s = true) (hinst : (Cond.instanceMethod y).before args s = true) (hsel : (Cond.selects C y y).before args s = true)
    (hcode : (Cond.codeWith y bytes maxL ret hh).before args s = true) (hy : y.cls ≠ "java/lang/invoke/MethodHandle" ∧ y.cls ≠ "java/lang/invoke/VarHandle")
    {W9 : Nat} {Pre : Pt → Array Value → Prop} {Post : Pt → Array Value → Option Value → Pt → Prop} {PostX : Pt → Array Value → Addr → Pt → Prop} (hK : vx_Back l R p e below s args y 3 W9 Pre Post PostX)
    {b : Addr} {cellB : Cell} (hcell : T.heap[b]? = some cellB) (hobj : cellB.vm.isStatics = false) (hcls : s.vm.findClass C = some cellB.cls)
    {g : JFrame} (hg : g.method = m) (hsize : g.locals.size = c.maxLocals) {argsL rest : List Value} (hlen : ∀ sig, parseMethodDescriptor y.desc = some sig → argsL.length = sig.parameters.length)
    (hstack : g.stack = argsL.reverse ++ .ref b :: rest) (hW : 2 * g.monitorRoom + (rest.map fun v => v.category).sum ≤ W9) (hdg : decode c.code g.pc = .ok (.invokevirtual index, 3))
    (hpre : ∀ vm₁, s.WarmedH vm₁ → Pre ⟨T.setVm vm₁, locs, cells, slots⟩ (Value.ref b :: argsL).toArray) :
    (∃ (v : Option Value) (vm₁ : Vm) (B : Pt), s.WarmedH vm₁ ∧ Stand p l e R s m args below meth c B.U B.locs B.cells B.slots ∧ Post ⟨T.setVm vm₁, locs, cells, slots⟩ (Value.ref b :: argsL).toArray v B ∧
      ∀ target, Steps p.tables e below (B.U.setTop { g with pc := g.pc + 3, stack := v.toList ++ rest }) target → Steps p.tables e below (T.setTop g) target) ∨
    (∃ (q : Addr) (vm₁ : Vm) (B : Pt), s.WarmedH vm₁ ∧ Stand p l e R s m args below meth c B.U B.locs B.cells B.slots ∧ PostX ⟨T.setVm vm₁, locs, cells, slots⟩ (Value.ref b :: argsL).toArray q B ∧
      Steps p.tables e below (T.setTop g) ((B.U.setTop { g with stack := rest }).pushFrame (.throwing q))) := by
  obtain ⟨mk, methM, hnamed, hmethM, hstM, habM⟩ := Cond.instanceMethod_spec hinst
  obtain ⟨m8, methM', cM, hn8, hmethM', -, -, -, -, -, -, hsigM⟩ := Cond.codeWith_spec hcode
  cases Option.some.inj (hn8.symm.trans hnamed)
  cases hmethM.symm.trans hmethM'
  obtain ⟨c2, r2, m2, q1, q2, q3, q4, kP, hkP, hkPi⟩ := Cond.selects_spec hsel
  cases hcls.symm.trans q1
  cases (State.methodFound?_of_named hnamed hy).symm.trans q2
  cases hnamed.symm.trans q3
  have hselP : selectMethod e.platform s.vm cellB.cls mk = .method mk := by rw [Launch.admits_selectMethod X.admits]; exact q4
  obtain ⟨vm₁, X₁, hstep₁⟩ := X.invokevirtual hexec hown hlink hnamed hmethM hstM hkP hkPi hy (a := b) (cell := cellB) hcell
    (fun z h => by rw [h] at hobj; cases hobj) hselP hmethM habM hkP hkPi (g := g) hg (argsL := argsL) (rest := rest) (hlen _ hsigM) hstack hdg
  rcases hK m meth c ⟨T.setVm vm₁, locs, cells, slots⟩ { g with stack := rest } (.invokevirtual index) mk (Value.ref b :: argsL).toArray X₁ hg hsize hdg hW (X₁.named hnamed) (hpre vm₁ X₁.warmed) with ⟨v, B, X', hpost, hsteps⟩ | ⟨q, B, X', hpost, hsteps⟩
  · exact Or.inl ⟨v, vm₁, B, X₁.warmed, X', hpost, fun target h => hstep₁ _ fun acts => by rw [doInvoke_state]; exact hsteps.trans h⟩
  · exact Or.inr ⟨q, vm₁, B, X₁.warmed, X', hpost, hstep₁ _ fun acts => by rw [doInvoke_state]; exact hsteps⟩
theorem vx_callSX (X : Stand p l e R s m args below meth c T locs cells slots) (hexec : p.tables.exec = Jvm.exec) {own : String} {index : Nat} {y : MethodName} {bytes : ByteArray} {maxL : Nat} {ret : Option FieldType} {hh : List (Nat × Nat × Nat × Nat)}
    (hown : s.vm.findClass own = some m.cls) (hlink : (Cond.methodLink own index y).before args s = true) (hstat : (Cond.static y).before args s = true) (hinit : (Cond.initialized y.cls).before args s = true)
    (hcode : (Cond.codeWith y bytes maxL ret hh).before args s = true) (hy : y.cls ≠ "java/lang/invoke/MethodHandle" ∧ y.cls ≠ "java/lang/invoke/VarHandle")
    {W9 : Nat} {Pre : Pt → Array Value → Prop} {Post : Pt → Array Value → Option Value → Pt → Prop} {PostX : Pt → Array Value → Addr → Pt → Prop} (hK : vx_Back l R p e below s args y 3 W9 Pre Post PostX)
    {g : JFrame} (hg : g.method = m) (hsize : g.locals.size = c.maxLocals) {argsL rest : List Value} (hlen : ∀ sig, parseMethodDescriptor y.desc = some sig → argsL.length = sig.parameters.length)
    (hstack : g.stack = argsL.reverse ++ rest) (hW : 2 * g.monitorRoom + (rest.map fun v => v.category).sum ≤ W9) (hdg : decode c.code g.pc = .ok (.invokestatic index, 3))
    (hpre : ∀ vm₁, s.WarmedH vm₁ → Pre ⟨T.setVm vm₁, locs, cells, slots⟩ argsL.toArray) :
    (∃ (v : Option Value) (vm₁ : Vm) (B : Pt), s.WarmedH vm₁ ∧ Stand p l e R s m args below meth c B.U B.locs B.cells B.slots ∧ Post ⟨T.setVm vm₁, locs, cells, slots⟩ argsL.toArray v B ∧
      ∀ target, Steps p.tables e below (B.U.setTop { g with pc := g.pc + 3, stack := v.toList ++ rest }) target → Steps p.tables e below (T.setTop g) target) ∨
    (∃ (q : Addr) (vm₁ : Vm) (B : Pt), s.WarmedH vm₁ ∧ Stand p l e R s m args below meth c B.U B.locs B.cells B.slots ∧ PostX ⟨T.setVm vm₁, locs, cells, slots⟩ argsL.toArray q B ∧
      Steps p.tables e below (T.setTop g) ((B.U.setTop { g with stack := rest }).pushFrame (.throwing q))) := by
  obtain ⟨mk, methM, cM, hnamed, hmethM, -, -, -, -, -, -, hsigM⟩ := Cond.codeWith_spec hcode
  have hstatic : methM.isStatic = true := Cond.static_spec hnamed hmethM hstat
  obtain ⟨kP, hkP, -⟩ := className_of_methodNamed hnamed
  have hinitP : kP.init = .initialized := Cond.initialized_spec (findClass_of_methodNamed hnamed) hkP hinit
  obtain ⟨vm₁, X₁, hstep₁⟩ := X.invokestatic hexec hown hlink hnamed hmethM hstatic hkP hinitP hy (g := g) hg (argsL := argsL) (rest := rest) (hlen _ hsigM) hstack hdg
  rcases hK m meth c ⟨T.setVm vm₁, locs, cells, slots⟩ { g with stack := rest } (.invokestatic index) mk argsL.toArray X₁ hg hsize hdg hW (X₁.named hnamed) (hpre vm₁ X₁.warmed) with ⟨v, B, X', hpost, hsteps⟩ | ⟨q, B, X', hpost, hsteps⟩
  · exact Or.inl ⟨v, vm₁, B, X₁.warmed, X', hpost, fun target h => hstep₁ _ fun acts => by rw [doInvoke_state]; exact hsteps.trans h⟩
  · exact Or.inr ⟨q, vm₁, B, X₁.warmed, X', hpost, hstep₁ _ fun acts => by rw [doInvoke_state]; exact hsteps⟩
theorem vx_callVW (X : Stand p l e R s m args below meth c T locs cells slots) (hexec : p.tables.exec = Jvm.exec) {own C : String} {index : Nat} {y : MethodName} {bytes : ByteArray} {maxL : Nat} {ret : Option FieldType} {hh : List (Nat × Nat × Nat × Nat)}
    (hown : s.vm.findClass own = some m.cls) (hlink : (Cond.methodLink own index y).before args s = true) (hinst : (Cond.instanceMethod y).before args s = true) (hsel : (Cond.selects C y y).before args s = true)
    (hcode : (Cond.codeWith y bytes maxL ret hh).before args s = true) (hy : y.cls ≠ "java/lang/invoke/MethodHandle" ∧ y.cls ≠ "java/lang/invoke/VarHandle")
    {W9 : Nat} {Pre : Pt → Array Value → Prop} {Post : Pt → Array Value → Option Value → Pt → Prop} (hK : Back l R p e below s args y 3 W9 Pre Post)
    {b : Addr} {cellB : Cell} (hcell : T.heap[b]? = some cellB) (hobj : cellB.vm.isStatics = false) (hcls : s.vm.findClass C = some cellB.cls)
    {g : JFrame} (hg : g.method = m) (hsize : g.locals.size = c.maxLocals) {argsL rest : List Value} (hlen : ∀ sig, parseMethodDescriptor y.desc = some sig → argsL.length = sig.parameters.length)
    (hstack : g.stack = argsL.reverse ++ .ref b :: rest) (hW : 2 * g.monitorRoom + (rest.map fun v => v.category).sum ≤ W9) (hdg : decode c.code g.pc = .ok (.invokevirtual index, 3))
    (hpre : ∀ vm₁, s.WarmedH vm₁ → Pre ⟨T.setVm vm₁, locs, cells, slots⟩ (Value.ref b :: argsL).toArray) :
    ∃ (v : Option Value) (vm₁ : Vm) (B : Pt), s.WarmedH vm₁ ∧ Stand p l e R s m args below meth c B.U B.locs B.cells B.slots ∧ Post ⟨T.setVm vm₁, locs, cells, slots⟩ (Value.ref b :: argsL).toArray v B ∧
      ∀ target, Steps p.tables e below (B.U.setTop { g with pc := g.pc + 3, stack := v.toList ++ rest }) target → Steps p.tables e below (T.setTop g) target := by
  obtain ⟨mk, methM, hnamed, hmethM, hstM, habM⟩ := Cond.instanceMethod_spec hinst
  obtain ⟨m8, methM', cM, hn8, hmethM', -, -, -, -, -, -, hsigM⟩ := Cond.codeWith_spec hcode
  cases Option.some.inj (hn8.symm.trans hnamed)
  cases hmethM.symm.trans hmethM'
  obtain ⟨c2, r2, m2, q1, q2, q3, q4, kP, hkP, hkPi⟩ := Cond.selects_spec hsel
  cases hcls.symm.trans q1
  cases (State.methodFound?_of_named hnamed hy).symm.trans q2
  cases hnamed.symm.trans q3
  have hselP : selectMethod e.platform s.vm cellB.cls mk = .method mk := by rw [Launch.admits_selectMethod X.admits]; exact q4
  obtain ⟨vm₁, X₁, hstep₁⟩ := X.invokevirtual hexec hown hlink hnamed hmethM hstM hkP hkPi hy (a := b) (cell := cellB) hcell
    (fun z h => by rw [h] at hobj; cases hobj) hselP hmethM habM hkP hkPi (g := g) hg (argsL := argsL) (rest := rest) (hlen _ hsigM) hstack hdg
  obtain ⟨v, B, X', hpost, hsteps⟩ := hK m meth c ⟨T.setVm vm₁, locs, cells, slots⟩ { g with stack := rest } (.invokevirtual index) mk (Value.ref b :: argsL).toArray X₁ hg hsize hdg hW (X₁.named hnamed) (hpre vm₁ X₁.warmed)
  exact ⟨v, vm₁, B, X₁.warmed, X', hpost, fun target h => hstep₁ _ fun acts => by rw [doInvoke_state]; exact hsteps.trans h⟩
abbrev vx_CVW (R : Room) (s : State) (args : Array Value) (own C : String) (index : Nat) (y : MethodName) (bytes : ByteArray) (maxL : Nat) (ret : Option FieldType) (hh : List (Nat × Nat × Nat × Nat)) (ws : List Cond) (rm : Room) (mc ms n : Nat) : Prop :=
  (rm.cells = mc ∧ rm.slots = ms ∧ rm.frames + 1 ≤ R.frames ∧ 8 + (maxL + 11) + rm.locals ≤ R.locals ∧ (∀ w ∈ ws, ∀ (a' : Array Value) (U : State), s.WarmedH U.vm → w.before a' U = true) ∧ Cond.codeWith y bytes maxL ret hh ∈ ws) ∧
  (Cond.codeWith y bytes maxL ret hh).before args s = true ∧ (Cond.initialized y.cls).before args s = true ∧ (y.cls ≠ "java/lang/invoke/MethodHandle" ∧ y.cls ≠ "java/lang/invoke/VarHandle") ∧
  (∀ sig, parseMethodDescriptor y.desc = some sig → n = sig.parameters.length) ∧ (Cond.methodLink own index y).before args s = true ∧ (Cond.instanceMethod y).before args s = true ∧ (Cond.selects C y y).before args s = true
theorem vx_cwVW {own C : String} {index maxL mc ms : Nat} {y : MethodName} {bytes : ByteArray} {ret : Option FieldType} {hh : List (Nat × Nat × Nat × Nat)} {Ts ws ws' : List Cond} {rm : Room} (n : Nat) (ht : ∀ w ∈ Ts, w.before args s = true) (hT : GoodIn Ts (wsV own index C y ws)) (hw : ws = Cond.codeWith y bytes maxL ret hh :: ws') (hrc : rm.cells = mc) (hrs : rm.slots = ms)
    (hd : y.cls = C ∧ y.cls ≠ "java/lang/invoke/MethodHandle" ∧ y.cls ≠ "java/lang/invoke/VarHandle" ∧ (parseMethodDescriptor y.desc).map (fun d => d.parameters.length) = some n) (hR : rm.frames + 1 ≤ R.frames ∧ 8 + (maxL + 11) + rm.locals ≤ R.locals) :
    vx_CVW R s args own C index y bytes maxL ret hh ws rm mc ms n := by
  obtain ⟨hC, hd⟩ := hd
  subst hC
  have ok : ∀ w ∈ wsV own index y.cls y ws, w.before args s = true := fun w h => ht w (hT w h).1
  have hG : GoodIn Ts ws := fun w h => hT w (by unfold wsV; exact List.mem_append_right _ h)
  have hc : Cond.codeWith y bytes maxL ret hh ∈ ws := by rw [hw]; exact List.mem_cons_self
  refine ⟨⟨hrc, hrs, hR.1, hR.2, pay_in ht hG, hc⟩, ht _ (hG _ hc).1, ok _ (by simp [wsV]), ⟨hd.1, hd.2.1⟩, fun sig h => ?_, ok _ (by simp [wsV]), ok _ (by simp [wsV]), ok _ (by simp [wsV])⟩
  have h2 := hd.2.2
  rw [h] at h2
  exact (Option.some.inj h2).symm
theorem vx_runVW {y : MethodName} {bytes cc : ByteArray} {maxL nL mc ms n index : Nat} {ret : Option FieldType} {hh : List (Nat × Nat × Nat × Nat)} {ws : List Cond} {rm : Room} {Pc : Array Value → State → Prop} {Qc : Array Value → State → Outcome → State → Prop} {free : Addr → Prop} {Ts : List Cond} {own C : String} {b : Addr} {As rest : List Value} {g : JFrame}
    (S : CallFix p m c cc nL s args Ts own) (hM : Met l y ws rm Pc Qc mc ms free) (cw : vx_CVW R s args own C index y bytes maxL ret hh ws rm mc ms n) (hp : PreV s H C b Pc As)
    (hg : g.method = m) (hn : As.length = n) (hsize : g.locals.size = nL) (hstack : g.stack = As.reverse ++ .ref b :: rest) (hW : 2 * g.monitorRoom + (rest.map fun v => v.category).sum ≤ 8) (hdg : decode cc g.pc = .ok (.invokevirtual index, 3)) (hf : cells + mc ≤ R.cells ∧ slots + ms ≤ R.slots) :
    va_Run p l e R s m args below meth c H locs cells slots mc ms g rest (Qc (Value.ref b :: As).toArray) free := by
  obtain ⟨⟨hrc, hrs, hfr, hlo, hws, hcw⟩, hcode, hini, hy, hlen, hl, hin, hse⟩ := cw
  have hK : Back l R p e below s args y 3 8 (PreOf R mc ms Pc) (PostOf Qc mc ms free) := va_backW (hh := hh) (bytes := bytes) (maxL := maxL) (ret := ret) hM hp.1 hrc hrs hfr hlo hws hcw (fun a' U hW => word_at hW (Or.inl (by first | rfl | simp [Cond.onTables, Cond.keeps, Cond.steady])) hini)
  obtain ⟨hx, hb, hml, ho, -⟩ := S
  obtain ⟨-, ⟨cellB, hcB, hoB, hclB⟩, hPc⟩ := hp
  intro T hT X
  obtain ⟨v, vm₁, ⟨U', l2, c2, s2⟩, hW₁, X', ⟨g', mk, t, L, e1, e2, hq, h1, hL, h2, h3⟩, st⟩ := vx_callVW X hx (C := C) (hh := hh) (bytes := bytes) (maxL := maxL) (ret := ret) ho hl hin hse hcode hy hK (by rw [hT]; exact hcB) hoB hclB hg (hsize.trans hml.symm) (argsL := As) (rest := rest) (fun sig h => hn.trans (hlen sig h)) hstack hW (by rw [hb]; exact hdg)
    (fun vm₁ hW₁ => ⟨hf.1, hf.2, hPc (T.setVm vm₁) hT hW₁⟩)
  dsimp only [Pt.U, Pt.locs, Pt.cells, Pt.slots] at X' e1 e2 h1 h2 h3 st
  subst h1; subst h2; subst h3
  exact ⟨v, (T.setVm vm₁).calling g' mk (Value.ref b :: As).toArray, t, U', L, hT, X', hL, e1, e2, hq, st⟩
section
variable {y : MethodName} {bytes cc : ByteArray} {maxL nL mc ms n index : Nat} {ret : Option FieldType} {ws : List Cond} {rm : Room} {Pc : Array Value → State → Prop} {Qc : Array Value → State → Outcome → State → Prop} {XC : String → State → State → Prop} {free : Addr → Prop} {Ts : List Cond} {own C : String} {b : Addr} {As rest : List Value} {g : JFrame}
theorem vx_runVX {hh : List (Nat × Nat × Nat × Nat)} (S : CallFix p m c cc nL s args Ts own) (hM : vx_Met l y ws rm Pc Qc XC mc ms free) (cw : vx_CVW R s args own C index y bytes maxL ret hh ws rm mc ms n) (hp : PreV s H C b Pc As)
    (hg : g.method = m) (hn : As.length = n) (hsize : g.locals.size = nL) (hstack : g.stack = As.reverse ++ .ref b :: rest) (hW : 2 * g.monitorRoom + (rest.map fun v => v.category).sum ≤ 8) (hdg : decode cc g.pc = .ok (.invokevirtual index, 3)) (hf : cells + mc ≤ R.cells ∧ slots + ms ≤ R.slots) :
    vx_Run p l e R s m args below meth c H locs cells slots mc ms g rest (Qc (Value.ref b :: As).toArray) XC free := by
  obtain ⟨⟨hrc, hrs, hfr, hlo, hws, hcw⟩, hcode, hini, hy, hlen, hl, hin, hse⟩ := cw
  have hK : vx_Back l R p e below s args y 3 8 (PreOf R mc ms Pc) (PostOf Qc mc ms free) (vx_Post XC mc ms free) := vx_backW (hh := hh) (bytes := bytes) (maxL := maxL) (ret := ret) hM hp.1 hrc hrs hfr hlo hws hcw (fun a' U hW => word_at hW (Or.inl (by first | rfl | simp [Cond.onTables, Cond.keeps, Cond.steady])) hini)
  obtain ⟨hx, hb, hml, ho, -⟩ := S
  obtain ⟨-, ⟨cellB, hcB, hoB, hclB⟩, hPc⟩ := hp
  intro T hT X
  rcases vx_callVX X hx (C := C) (hh := hh) (bytes := bytes) (maxL := maxL) (ret := ret) ho hl hin hse hcode hy hK (by rw [hT]; exact hcB) hoB hclB hg (hsize.trans hml.symm) (argsL := As) (rest := rest) (fun sig h => hn.trans (hlen sig h)) hstack hW (by rw [hb]; exact hdg)
    (fun vm₁ hW₁ => ⟨hf.1, hf.2, hPc (T.setVm vm₁) hT hW₁⟩) with ⟨v, vm₁, ⟨U', l2, c2, s2⟩, hW₁, X', ⟨g', mk, t, L, e1, e2, hq, h1, hL, h2, h3⟩, st⟩ | ⟨q, vm₁, ⟨U', l2, c2, s2⟩, hW₁, X', ⟨g', mk, t, L, E, ce, e1, e2, hq, hce, hcv, hcl, h1, hL, h2, h3⟩, st⟩
  · dsimp only [Pt.U, Pt.locs, Pt.cells, Pt.slots] at X' e1 e2 h1 h2 h3 st
    subst h1; subst h2; subst h3
    exact Or.inl ⟨v, (T.setVm vm₁).calling g' mk (Value.ref b :: As).toArray, t, U', L, hT, X', hL, e1, e2, hq, st⟩
  · dsimp only [Pt.U, Pt.locs, Pt.cells, Pt.slots] at X' e1 e2 h1 h2 h3 st hcl
    subst h1; subst h2; subst h3
    exact Or.inr ⟨q, (T.setVm vm₁).calling g' mk (Value.ref b :: As).toArray, t, U', L, E, ce, hT, X', hL, e1, e2, hq, hce, hcv, vx_cls hW₁ hcl, st⟩
theorem vx_runSX {hh : List (Nat × Nat × Nat × Nat)} (S : CallFix p m c cc nL s args Ts own) (hM : vx_Met l y ws rm Pc Qc XC mc ms free) (cw : vx_CSW R s args own index y bytes maxL ret hh ws rm mc ms n) (hp : PreS s H Pc As)
    (hg : g.method = m) (hn : As.length = n) (hsize : g.locals.size = nL) (hstack : g.stack = As.reverse ++ rest) (hW : 2 * g.monitorRoom + (rest.map fun v => v.category).sum ≤ 8) (hdg : decode cc g.pc = .ok (.invokestatic index, 3)) (hf : cells + mc ≤ R.cells ∧ slots + ms ≤ R.slots) :
    vx_Run p l e R s m args below meth c H locs cells slots mc ms g rest (Qc As.toArray) XC free := by
  obtain ⟨⟨hrc, hrs, hfr, hlo, hws, hcw⟩, hcode, hini, hy, hlen, hl, hstt⟩ := cw
  have hK : vx_Back l R p e below s args y 3 8 (PreOf R mc ms Pc) (PostOf Qc mc ms free) (vx_Post XC mc ms free) := vx_backW (hh := hh) (bytes := bytes) (maxL := maxL) (ret := ret) hM hp.1 hrc hrs hfr hlo hws hcw (fun a' U hW => word_at hW (Or.inl (by first | rfl | simp [Cond.onTables, Cond.keeps, Cond.steady])) hini)
  obtain ⟨hx, hb, hml, ho, -⟩ := S
  intro T hT X
  rcases vx_callSX X hx (hh := hh) (bytes := bytes) (maxL := maxL) (ret := ret) ho hl hstt hini hcode hy hK hg (hsize.trans hml.symm) (argsL := As) (rest := rest) (fun sig h => hn.trans (hlen sig h)) hstack hW (by rw [hb]; exact hdg)
    (fun vm₁ hW₁ => ⟨hf.1, hf.2, hp.2 (T.setVm vm₁) hT hW₁⟩) with ⟨v, vm₁, ⟨U', l2, c2, s2⟩, hW₁, X', ⟨g', mk, t, L, e1, e2, hq, h1, hL, h2, h3⟩, st⟩ | ⟨q, vm₁, ⟨U', l2, c2, s2⟩, hW₁, X', ⟨g', mk, t, L, E, ce, e1, e2, hq, hce, hcv, hcl, h1, hL, h2, h3⟩, st⟩
  · dsimp only [Pt.U, Pt.locs, Pt.cells, Pt.slots] at X' e1 e2 h1 h2 h3 st
    subst h1; subst h2; subst h3
    exact Or.inl ⟨v, (T.setVm vm₁).calling g' mk As.toArray, t, U', L, hT, X', hL, e1, e2, hq, st⟩
  · dsimp only [Pt.U, Pt.locs, Pt.cells, Pt.slots] at X' e1 e2 h1 h2 h3 st hcl
    subst h1; subst h2; subst h3
    exact Or.inr ⟨q, (T.setVm vm₁).calling g' mk As.toArray, t, U', L, E, ce, hT, X', hL, e1, e2, hq, hce, hcv, vx_cls hW₁ hcl, st⟩
end
end VXH
theorem vx_ofWH {l : Launch} {y : MethodName} {ws ws' : List Cond} {rm : Room} {Pc : Array Value → State → Prop} {Qc : Array Value → State → Outcome → State → Prop} {XC : String → State → State → Prop} {mc ms : Nat} {free : Addr → Prop} {cc : ByteArray} {maxL : Nat} {ret : Option FieldType} {hh : List (Nat × Nat × Nat × Nat)}
    (hy : plainName y.cls = true) (hw : ws = Cond.codeWith y cc maxL ret hh :: ws')
    (body : ∀ p e s m args below meth c s₁, BodyLoose p l y (headSpec ws rm) cc maxL ret e s m args below meth c s₁ → c.maxLocals = maxL → Pc args s →
      W p l e (headSpec ws rm).room s m args below meth c s.heap [] 0 0 (vx_MQ below Qc XC args s mc ms free) (entryFrame m args maxL)) : vx_Met l y ws rm Pc Qc XC mc ms free := by
  refine MetFree.of_bodyS (code := cc) (maxLocals := maxL) (ret := ret) hy ?_ ?_
  · intro args s m h hn
    obtain ⟨m9, meth, c, hn9, h1, h2, h3, h4, -, h5, h6, -⟩ := Cond.codeWith_spec (atoms_spec (ws := ws) h _ (by rw [hw]; exact List.mem_cons_self))
    cases hn.symm.trans hn9
    exact ⟨meth, c, h1, h2, h3, h4, h5, h6⟩
  · intro p e s m args below meth c s₁ B hml hP _
    have hh0 : s₁.heap = s.heap := by rw [B.state]; rfl
    obtain ⟨t, a1, o, b1, b2, b3⟩ := body p e s m args below meth c s₁ B hml hP s₁ hh0 (Stand.of_body B)
    exact ⟨t, o, a1, b1, b2, b3⟩
/-! ===== END ===== -/

/-! ===== BEGIN printed: names, fields, word lists, decode rows ===== -/
def RX0 : String := "Formationist$LinkCounts"
def TX0 : u_T := fun k => match k with
  | _ => ("Formationist$LinkCounts", "linksWithin", "[I", true)
def tyX0 : Nat → FieldType := fun k => match k with
  | _ => .array .int
abbrev wsX00 : List Cond := u_ws RX0 TX0 1
theorem nmX0 : ∀ a, a < 1 → ∀ b, b < 1 → a ≠ b → (TX0 a).2.1 ≠ (TX0 b).2.1 := by decide +kernel
theorem tyX0_ok : ∀ k, k < 1 → parseFieldDescriptor (TX0 k).2.2.1 = some (tyX0 k) := by decide +kernel
abbrev cX0_init : ByteArray := prog_2_method_1_code
def yX0_init : MethodName := ⟨RX0, "<init>", "()V"⟩
abbrev cX0_rankOf : ByteArray := prog_2_method_2_code
def yX0_rankOf : MethodName := ⟨RX0, "rankOf", "(LFormationist$Net;)I"⟩
abbrev cX0_leavesFree : ByteArray := prog_2_method_3_code
def yX0_leavesFree : MethodName := ⟨RX0, "leavesFree", "(I)Z"⟩
abbrev cX0_keepLink : ByteArray := prog_2_method_4_code
def yX0_keepLink : MethodName := ⟨RX0, "keepLink", "(I)V"⟩
def RX1 : String := "Formationist$Net"
def TX1 : u_T := fun k => match k with
  | _ => ("Formationist$Net", "others", "[I", true)
def tyX1 : Nat → FieldType := fun k => match k with
  | _ => .array .int
abbrev wsX10 : List Cond := u_ws RX1 TX1 1
theorem nmX1 : ∀ a, a < 1 → ∀ b, b < 1 → a ≠ b → (TX1 a).2.1 ≠ (TX1 b).2.1 := by decide +kernel
theorem tyX1_ok : ∀ k, k < 1 → parseFieldDescriptor (TX1 k).2.2.1 = some (tyX1 k) := by decide +kernel
abbrev cX1_init : ByteArray := prog_3_method_1_code
def yX1_init : MethodName := ⟨RX1, "<init>", "()V"⟩
abbrev cX1_holds : ByteArray := prog_3_method_2_code
def yX1_holds : MethodName := ⟨RX1, "holds", "(II)Z"⟩
abbrev cX1_with : ByteArray := prog_3_method_3_code
def yX1_with : MethodName := ⟨RX1, "with", "(II)I"⟩
abbrev cX1_without : ByteArray := prog_3_method_4_code
def yX1_without : MethodName := ⟨RX1, "without", "(II)I"⟩
abbrev cX1_clear : ByteArray := prog_3_method_5_code
def yX1_clear : MethodName := ⟨RX1, "clear", "()V"⟩
abbrev cX1_join : ByteArray := prog_3_method_6_code
def yX1_join : MethodName := ⟨RX1, "join", "(II)V"⟩
abbrev cX1_cut : ByteArray := prog_3_method_7_code
def yX1_cut : MethodName := ⟨RX1, "cut", "(II)V"⟩
abbrev cX1_joins : ByteArray := prog_3_method_8_code
def yX1_joins : MethodName := ⟨RX1, "joins", "(II)Z"⟩
abbrev cX1_degreeOf : ByteArray := prog_3_method_9_code
def yX1_degreeOf : MethodName := ⟨RX1, "degreeOf", "(I)I"⟩
abbrev cX1_pairCount : ByteArray := prog_3_method_10_code
def yX1_pairCount : MethodName := ⟨RX1, "pairCount", "()I"⟩
abbrev cX1_groupOf : ByteArray := prog_3_method_11_code
def yX1_groupOf : MethodName := ⟨RX1, "groupOf", "(I)I"⟩
def RX2 : String := "Formationist$PebbleGame"
def TX2 : u_T := fun k => match k with
  | 0 => ("Formationist$PebbleGame", "pebbles", "[I", true)
  | 1 => ("Formationist$PebbleGame", "arcs", "[I", true)
  | _ => ("Formationist$PebbleGame", "cameFrom", "[I", true)
def tyX2 : Nat → FieldType := fun k => match k with
  | 0 => .array .int
  | 1 => .array .int
  | _ => .array .int
abbrev wsX20 : List Cond := u_ws RX2 TX2 3
theorem nmX2 : ∀ a, a < 3 → ∀ b, b < 3 → a ≠ b → (TX2 a).2.1 ≠ (TX2 b).2.1 := by decide +kernel
theorem tyX2_ok : ∀ k, k < 3 → parseFieldDescriptor (TX2 k).2.2.1 = some (tyX2 k) := by decide +kernel
abbrev cX2_init : ByteArray := prog_4_method_1_code
def yX2_init : MethodName := ⟨RX2, "<init>", "()V"⟩
abbrev cX2_rankOf : ByteArray := prog_4_method_2_code
def yX2_rankOf : MethodName := ⟨RX2, "rankOf", "(LFormationist$Net;)I"⟩
abbrev cX2_gatherPebbles : ByteArray := prog_4_method_3_code
def yX2_gatherPebbles : MethodName := ⟨RX2, "gatherPebbles", "(II)Z"⟩
abbrev cX2_fetchPebble : ByteArray := prog_4_method_4_code
def yX2_fetchPebble : MethodName := ⟨RX2, "fetchPebble", "(II)Z"⟩
abbrev cX2_findPebble : ByteArray := prog_4_method_5_code
def yX2_findPebble : MethodName := ⟨RX2, "findPebble", "(II)I"⟩
abbrev cX2_noteWay : ByteArray := prog_4_method_6_code
def yX2_noteWay : MethodName := ⟨RX2, "noteWay", "(II)V"⟩
abbrev cX2_holderAmong : ByteArray := prog_4_method_7_code
def yX2_holderAmong : MethodName := ⟨RX2, "holderAmong", "(I)I"⟩
abbrev cX2_turnArcs : ByteArray := prog_4_method_8_code
def yX2_turnArcs : MethodName := ⟨RX2, "turnArcs", "(I)V"⟩
def RX3 : String := "Formationist$TreeMatrix"
def TX3 : u_T := fun k => match k with
  | _ => ("Formationist$TreeMatrix", "rows", "[[J", true)
def tyX3 : Nat → FieldType := fun k => match k with
  | _ => .array (.array .long)
abbrev wsX30 : List Cond := u_ws RX3 TX3 1
theorem nmX3 : ∀ a, a < 1 → ∀ b, b < 1 → a ≠ b → (TX3 a).2.1 ≠ (TX3 b).2.1 := by decide +kernel
theorem tyX3_ok : ∀ k, k < 1 → parseFieldDescriptor (TX3 k).2.2.1 = some (tyX3 k) := by decide +kernel
abbrev cX3_init : ByteArray := prog_5_method_1_code
def yX3_init : MethodName := ⟨RX3, "<init>", "()V"⟩
abbrev cX3_treesOf : ByteArray := prog_5_method_2_code
def yX3_treesOf : MethodName := ⟨RX3, "treesOf", "(LFormationist$Net;I)J"⟩
abbrev cX3_fill : ByteArray := prog_5_method_3_code
def yX3_fill : MethodName := ⟨RX3, "fill", "(LFormationist$Net;I)I"⟩
abbrev cX3_fillRow : ByteArray := prog_5_method_4_code
def yX3_fillRow : MethodName := ⟨RX3, "fillRow", "(LFormationist$Net;II[J)V"⟩
abbrev cX3_determinant : ByteArray := prog_5_method_5_code
def yX3_determinant : MethodName := ⟨RX3, "determinant", "(I)J"⟩
def RX4 : String := "Formationist"
def TX4 : u_T := fun k => match k with
  | 0 => ("Formationist", "xs", "[I", true)
  | 1 => ("Formationist", "ys", "[I", true)
  | 2 => ("Formationist", "ups", "[Z", true)
  | 3 => ("Formationist", "priorities", "[I", true)
  | 4 => ("Formationist", "estimates", "[I", true)
  | 5 => ("Formationist", "sums", "[I", true)
  | 6 => ("Formationist", "weights", "[I", true)
  | 7 => ("Formationist", "lastReceivers", "[I", true)
  | 8 => ("Formationist", "wantedSquares", "[[I", true)
  | 9 => ("Formationist", "blocked", "LFormationist$Net;", true)
  | 10 => ("Formationist", "count", "I", false)
  | 11 => ("Formationist", "range", "I", false)
  | 12 => ("Formationist", "net", "LFormationist$Net;", true)
  | 13 => ("Formationist", "changes", "[I", true)
  | 14 => ("Formationist", "moreChanges", "[I", true)
  | 15 => ("Formationist", "pebbleGame", "LFormationist$PebbleGame;", true)
  | 16 => ("Formationist", "linkCounts", "LFormationist$LinkCounts;", true)
  | _ => ("Formationist", "treeMatrix", "LFormationist$TreeMatrix;", true)
def tyX4 : Nat → FieldType := fun k => match k with
  | 0 => .array .int
  | 1 => .array .int
  | 2 => .array .boolean
  | 3 => .array .int
  | 4 => .array .int
  | 5 => .array .int
  | 6 => .array .int
  | 7 => .array .int
  | 8 => .array (.array .int)
  | 9 => .object "Formationist$Net"
  | 10 => .int
  | 11 => .int
  | 12 => .object "Formationist$Net"
  | 13 => .array .int
  | 14 => .array .int
  | 15 => .object "Formationist$PebbleGame"
  | 16 => .object "Formationist$LinkCounts"
  | _ => .object "Formationist$TreeMatrix"
abbrev wsX40 : List Cond := u_ws RX4 TX4 18
theorem nmX4 : ∀ a, a < 18 → ∀ b, b < 18 → a ≠ b → (TX4 a).2.1 ≠ (TX4 b).2.1 := by decide +kernel
theorem tyX4_ok : ∀ k, k < 18 → parseFieldDescriptor (TX4 k).2.2.1 = some (tyX4 k) := by decide +kernel
abbrev cX4_init : ByteArray := prog_1_method_1_code
def yX4_init : MethodName := ⟨RX4, "<init>", "()V"⟩
abbrev cX4_addMember : ByteArray := prog_1_method_2_code
def yX4_addMember : MethodName := ⟨RX4, "addMember", "(II)I"⟩
abbrev cX4_move : ByteArray := prog_1_method_3_code
def yX4_move : MethodName := ⟨RX4, "move", "(III)V"⟩
abbrev cX4_toggle : ByteArray := prog_1_method_4_code
def yX4_toggle : MethodName := ⟨RX4, "toggle", "(I)Z"⟩
abbrev cX4_setPriority : ByteArray := prog_1_method_5_code
def yX4_setPriority : MethodName := ⟨RX4, "setPriority", "(II)I"⟩
abbrev cX4_setRange : ByteArray := prog_1_method_6_code
def yX4_setRange : MethodName := ⟨RX4, "setRange", "(I)I"⟩
abbrev cX4_block : ByteArray := prog_1_method_7_code
def yX4_block : MethodName := ⟨RX4, "block", "(II)Z"⟩
abbrev cX4_members : ByteArray := prog_1_method_8_code
def yX4_members : MethodName := ⟨RX4, "members", "()I"⟩
abbrev cX4_xOf : ByteArray := prog_1_method_9_code
def yX4_xOf : MethodName := ⟨RX4, "xOf", "(I)I"⟩
abbrev cX4_yOf : ByteArray := prog_1_method_10_code
def yX4_yOf : MethodName := ⟨RX4, "yOf", "(I)I"⟩
abbrev cX4_areLinked : ByteArray := prog_1_method_11_code
def yX4_areLinked : MethodName := ⟨RX4, "areLinked", "(II)Z"⟩
abbrev cX4_links : ByteArray := prog_1_method_12_code
def yX4_links : MethodName := ⟨RX4, "links", "()I"⟩
abbrev cX4_degree : ByteArray := prog_1_method_13_code
def yX4_degree : MethodName := ⟨RX4, "degree", "(I)I"⟩
abbrev cX4_groups : ByteArray := prog_1_method_14_code
def yX4_groups : MethodName := ⟨RX4, "groups", "()I"⟩
abbrev cX4_leader : ByteArray := prog_1_method_15_code
def yX4_leader : MethodName := ⟨RX4, "leader", "(I)I"⟩
abbrev cX4_trees : ByteArray := prog_1_method_16_code
def yX4_trees : MethodName := ⟨RX4, "trees", "()J"⟩
abbrev cX4_setEstimate : ByteArray := prog_1_method_17_code
def yX4_setEstimate : MethodName := ⟨RX4, "setEstimate", "(II)I"⟩
abbrev cX4_estimate : ByteArray := prog_1_method_18_code
def yX4_estimate : MethodName := ⟨RX4, "estimate", "(I)I"⟩
abbrev cX4_agree : ByteArray := prog_1_method_19_code
def yX4_agree : MethodName := ⟨RX4, "agree", "(I)I"⟩
abbrev cX4_setSum : ByteArray := prog_1_method_20_code
def yX4_setSum : MethodName := ⟨RX4, "setSum", "(II)I"⟩
abbrev cX4_sum : ByteArray := prog_1_method_21_code
def yX4_sum : MethodName := ⟨RX4, "sum", "(I)I"⟩
abbrev cX4_weight : ByteArray := prog_1_method_22_code
def yX4_weight : MethodName := ⟨RX4, "weight", "(I)I"⟩
abbrev cX4_spread : ByteArray := prog_1_method_23_code
def yX4_spread : MethodName := ⟨RX4, "spread", "(I)I"⟩
abbrev cX4_want : ByteArray := prog_1_method_24_code
def yX4_want : MethodName := ⟨RX4, "want", "(III)I"⟩
abbrev cX4_error : ByteArray := prog_1_method_25_code
def yX4_error : MethodName := ⟨RX4, "error", "()I"⟩
abbrev cX4_settle : ByteArray := prog_1_method_26_code
def yX4_settle : MethodName := ⟨RX4, "settle", "(I)I"⟩
abbrev cX4_rank : ByteArray := prog_1_method_27_code
def yX4_rank : MethodName := ⟨RX4, "rank", "()I"⟩
abbrev cX4_rankByCounting : ByteArray := prog_1_method_28_code
def yX4_rankByCounting : MethodName := ⟨RX4, "rankByCounting", "()I"⟩
abbrev cX4_isRigid : ByteArray := prog_1_method_29_code
def yX4_isRigid : MethodName := ⟨RX4, "isRigid", "()Z"⟩
abbrev cX4_isSpare : ByteArray := prog_1_method_30_code
def yX4_isSpare : MethodName := ⟨RX4, "isSpare", "(II)Z"⟩
abbrev cX4_requireMember : ByteArray := prog_1_method_31_code
def yX4_requireMember : MethodName := ⟨RX4, "requireMember", "(I)V"⟩
abbrev cX4_requireUnlike : ByteArray := prog_1_method_32_code
def yX4_requireUnlike : MethodName := ⟨RX4, "requireUnlike", "(II)V"⟩
abbrev cX4_requireWithin : ByteArray := prog_1_method_33_code
def yX4_requireWithin : MethodName := ⟨RX4, "requireWithin", "(III)V"⟩
abbrev cX4_requirePlace : ByteArray := prog_1_method_34_code
def yX4_requirePlace : MethodName := ⟨RX4, "requirePlace", "(II)V"⟩
abbrev cX4_requireValue : ByteArray := prog_1_method_35_code
def yX4_requireValue : MethodName := ⟨RX4, "requireValue", "(I)V"⟩
abbrev cX4_requireRounds : ByteArray := prog_1_method_36_code
def yX4_requireRounds : MethodName := ⟨RX4, "requireRounds", "(I)V"⟩
abbrev cX4_squareBetween : ByteArray := prog_1_method_37_code
def yX4_squareBetween : MethodName := ⟨RX4, "squareBetween", "(II)I"⟩
abbrev cX4_hears : ByteArray := prog_1_method_38_code
def yX4_hears : MethodName := ⟨RX4, "hears", "(II)Z"⟩
abbrev cX4_drawNet : ByteArray := prog_1_method_39_code
def yX4_drawNet : MethodName := ⟨RX4, "drawNet", "()V"⟩
abbrev cX4_countGroups : ByteArray := prog_1_method_40_code
def yX4_countGroups : MethodName := ⟨RX4, "countGroups", "()I"⟩
abbrev cX4_upSet : ByteArray := prog_1_method_41_code
def yX4_upSet : MethodName := ⟨RX4, "upSet", "()I"⟩
abbrev cX4_outranks : ByteArray := prog_1_method_42_code
def yX4_outranks : MethodName := ⟨RX4, "outranks", "(II)Z"⟩
abbrev cX4_exchangeEstimates : ByteArray := prog_1_method_43_code
def yX4_exchangeEstimates : MethodName := ⟨RX4, "exchangeEstimates", "()V"⟩
abbrev cX4_flowBetween : ByteArray := prog_1_method_44_code
def yX4_flowBetween : MethodName := ⟨RX4, "flowBetween", "(II)I"⟩
abbrev cX4_spanOfEstimates : ByteArray := prog_1_method_45_code
def yX4_spanOfEstimates : MethodName := ⟨RX4, "spanOfEstimates", "()I"⟩
abbrev cX4_handHalves : ByteArray := prog_1_method_46_code
def yX4_handHalves : MethodName := ⟨RX4, "handHalves", "()I"⟩
abbrev cX4_nextReceiver : ByteArray := prog_1_method_47_code
def yX4_nextReceiver : MethodName := ⟨RX4, "nextReceiver", "(I)I"⟩
abbrev cX4_handOver : ByteArray := prog_1_method_48_code
def yX4_handOver : MethodName := ⟨RX4, "handOver", "(III[I)V"⟩
abbrev cX4_addChanges : ByteArray := prog_1_method_49_code
def yX4_addChanges : MethodName := ⟨RX4, "addChanges", "([I[I)V"⟩
abbrev cX4_stepTogether : ByteArray := prog_1_method_50_code
def yX4_stepTogether : MethodName := ⟨RX4, "stepTogether", "()V"⟩
abbrev cX4_stepOf : ByteArray := prog_1_method_51_code
def yX4_stepOf : MethodName := ⟨RX4, "stepOf", "(I[I)I"⟩
abbrev cX4_keptOnPlane : ByteArray := prog_1_method_52_code
def yX4_keptOnPlane : MethodName := ⟨RX4, "keptOnPlane", "(I)I"⟩
abbrev cX4_excessOf : ByteArray := prog_1_method_53_code
def yX4_excessOf : MethodName := ⟨RX4, "excessOf", "(II)I"⟩
def RX5 : String := "FormationistModel"
def TX5 : u_T := fun k => match k with
  | _ => ("", "", "", false)
def tyX5 : Nat → FieldType := fun k => match k with
  | _ => .int
abbrev wsX50 : List Cond := u_ws RX5 TX5 0
theorem nmX5 : ∀ a, a < 0 → ∀ b, b < 0 → a ≠ b → (TX5 a).2.1 ≠ (TX5 b).2.1 := by decide +kernel
theorem tyX5_ok : ∀ k, k < 0 → parseFieldDescriptor (TX5 k).2.2.1 = some (tyX5 k) := by decide +kernel
def RJx145de : String := "java/io/Serializable"
def TJx145de : u_T := fun k => match k with
  | _ => ("", "", "", false)
def tyJx145de : Nat → FieldType := fun k => match k with
  | _ => .int
abbrev wsJx145de0 : List Cond := u_ws RJx145de TJx145de 0
theorem nmJx145de : ∀ a, a < 0 → ∀ b, b < 0 → a ≠ b → (TJx145de a).2.1 ≠ (TJx145de b).2.1 := by decide +kernel
theorem tyJx145de_ok : ∀ k, k < 0 → parseFieldDescriptor (TJx145de k).2.2.1 = some (tyJx145de k) := by decide +kernel
def RJ6 : String := "java/lang/Integer"
def TJ6 : u_T := fun k => match k with
  | _ => ("", "", "", false)
def tyJ6 : Nat → FieldType := fun k => match k with
  | _ => .int
abbrev wsJ60 : List Cond := u_ws RJ6 TJ6 0
theorem nmJ6 : ∀ a, a < 0 → ∀ b, b < 0 → a ≠ b → (TJ6 a).2.1 ≠ (TJ6 b).2.1 := by decide +kernel
theorem tyJ6_ok : ∀ k, k < 0 → parseFieldDescriptor (TJ6 k).2.2.1 = some (tyJ6 k) := by decide +kernel
abbrev cJ6_numberOfTrailingZeros_0f7a4 : ByteArray := prog_13_method_48_code
def yJ6_numberOfTrailingZeros_0f7a4 : MethodName := ⟨RJ6, "numberOfTrailingZeros", "(I)I"⟩
abbrev cJ6_bitCount_0f7a4 : ByteArray := prog_13_method_49_code
def yJ6_bitCount_0f7a4 : MethodName := ⟨RJ6, "bitCount", "(I)I"⟩
def RJ9 : String := "java/lang/Math"
def TJ9 : u_T := fun k => match k with
  | _ => ("", "", "", false)
def tyJ9 : Nat → FieldType := fun k => match k with
  | _ => .int
abbrev wsJ90 : List Cond := u_ws RJ9 TJ9 0
theorem nmJ9 : ∀ a, a < 0 → ∀ b, b < 0 → a ≠ b → (TJ9 a).2.1 ≠ (TJ9 b).2.1 := by decide +kernel
theorem tyJ9_ok : ∀ k, k < 0 → parseFieldDescriptor (TJ9 k).2.2.1 = some (tyJ9 k) := by decide +kernel
abbrev cJ9_abs_0f7a4 : ByteArray := prog_14_method_59_code
def yJ9_abs_0f7a4 : MethodName := ⟨RJ9, "abs", "(I)I"⟩
abbrev cJ9_max_7cf53 : ByteArray := prog_14_method_65_code
def yJ9_max_7cf53 : MethodName := ⟨RJ9, "max", "(II)I"⟩
abbrev cJ9_max_f86c9 : ByteArray := prog_14_method_66_code
def yJ9_max_f86c9 : MethodName := ⟨RJ9, "max", "(JJ)J"⟩
abbrev cJ9_min_7cf53 : ByteArray := prog_14_method_69_code
def yJ9_min_7cf53 : MethodName := ⟨RJ9, "min", "(II)I"⟩
abbrev cJ9_min_f86c9 : ByteArray := prog_14_method_70_code
def yJ9_min_f86c9 : MethodName := ⟨RJ9, "min", "(JJ)J"⟩
def RJ0 : String := "java/lang/String"
def TJ0 : u_T := fun k => match k with
  | _ => ("", "", "", false)
def tyJ0 : Nat → FieldType := fun k => match k with
  | _ => .int
abbrev wsJ00 : List Cond := u_ws RJ0 TJ0 0
theorem nmJ0 : ∀ a, a < 0 → ∀ b, b < 0 → a ≠ b → (TJ0 a).2.1 ≠ (TJ0 b).2.1 := by decide +kernel
theorem tyJ0_ok : ∀ k, k < 0 → parseFieldDescriptor (TJ0 k).2.2.1 = some (tyJ0 k) := by decide +kernel
def RJ7 : String := "java/util/Arrays"
def TJ7 : u_T := fun k => match k with
  | _ => ("", "", "", false)
def tyJ7 : Nat → FieldType := fun k => match k with
  | _ => .int
abbrev wsJ70 : List Cond := u_ws RJ7 TJ7 0
theorem nmJ7 : ∀ a, a < 0 → ∀ b, b < 0 → a ≠ b → (TJ7 a).2.1 ≠ (TJ7 b).2.1 := by decide +kernel
theorem tyJ7_ok : ∀ k, k < 0 → parseFieldDescriptor (TJ7 k).2.2.1 = some (tyJ7 k) := by decide +kernel
abbrev cJ7_fill_53178 : ByteArray := prog_18_method_103_code
def yJ7_fill_53178 : MethodName := ⟨RJ7, "fill", "([II)V"⟩
def RL : String := "FormationistLaw"
abbrev cL_from : ByteArray := method_2_code
def yL_from : MethodName := ⟨RL, "from", "([III)I"⟩
abbrev cL_pair : ByteArray := method_3_code
def yL_pair : MethodName := ⟨RL, "pair", "(II)I"⟩
abbrev cL_square : ByteArray := method_4_code
def yL_square : MethodName := ⟨RL, "square", "([III)I"⟩
abbrev cL_heard : ByteArray := method_5_code
def yL_heard : MethodName := ⟨RL, "heard", "([I[II)I"⟩
abbrev cL_ones : ByteArray := method_6_code
def yL_ones : MethodName := ⟨RL, "ones", "(I)I"⟩
abbrev cL_up : ByteArray := method_7_code
def yL_up : MethodName := ⟨RL, "up", "([I)I"⟩
abbrev cL_group : ByteArray := method_8_code
def yL_group : MethodName := ⟨RL, "group", "(II)I"⟩
abbrev cL_links : ByteArray := method_9_code
def yL_links : MethodName := ⟨RL, "links", "([I[I)I"⟩
abbrev cL_isFree : ByteArray := method_10_code
def yL_isFree : MethodName := ⟨RL, "isFree", "(I)Z"⟩
abbrev cL_rank : ByteArray := method_11_code
def yL_rank : MethodName := ⟨RL, "rank", "(I)I"⟩
abbrev cL_trees : ByteArray := method_12_code
def yL_trees : MethodName := ⟨RL, "trees", "(II)J"⟩
abbrev cL_isLinked : ByteArray := method_13_code
def yL_isLinked : MethodName := ⟨RL, "isLinked", "(LFormationist;[I[I)Z"⟩
abbrev cL_spare : ByteArray := method_14_code
def yL_spare : MethodName := ⟨RL, "spare", "(LFormationist;II)I"⟩
abbrev cL_isFigure : ByteArray := method_15_code
def yL_isFigure : MethodName := ⟨RL, "isFigure", "(LFormationist;[I[II)Z"⟩
abbrev cL_error : ByteArray := method_16_code
def yL_error : MethodName := ⟨RL, "error", "([I[I[I)I"⟩
abbrev cL_agreed : ByteArray := method_17_code
def yL_agreed : MethodName := ⟨RL, "agreed", "([I[I)I"⟩
abbrev cL_spread : ByteArray := method_18_code
def yL_spread : MethodName := ⟨RL, "spread", "([I[I)I"⟩
abbrev cL_moved : ByteArray := method_19_code
def yL_moved : MethodName := ⟨RL, "moved", "(JI)I"⟩
abbrev cL_settle : ByteArray := method_20_code
def yL_settle : MethodName := ⟨RL, "settle", "([I[I[I)V"⟩
abbrev cL_acts : ByteArray := method_21_code
def yL_acts : MethodName := ⟨RL, "acts", "(LFormationist;[I[I[III)Z"⟩
abbrev cL_holds : ByteArray := method_22_code
def yL_holds : MethodName := ⟨RL, "holds", "([I)Z"⟩
abbrev cL_isHeld : ByteArray := method_23_code
def yL_isHeld : MethodName := ⟨RL, "isHeld", "([I)Z"⟩
abbrev cL_law : ByteArray := code
def yL_law : MethodName := ⟨RL, "law", "([I)Z"⟩
/-! A throw of a class whose own constructor calls its superclass's by any index (java.util.NoSuchElementException: 13). The road follows the library's for the index 7 (Bundle, BundleOwnThrow) and the printed row vx_throwS. -/
section FXT
variable {p : Program} {l : Launch} {e : Env} {R : Room} {s : State} {args : Array Value} {below : List Frame} {meth : Method} {c : Code} {locs : List Loc} {cells slots : Nat}
def fx_chainA (X : String) (ix : Nat) (rx : ByteArray) (Y : String) (r : List String) : List Cond := Bundle.passSAtoms X Y ix rx ++ Bundle.chainSAtoms Y r
theorem fx_chain {args : Array Value} {s : State} {pl : Platform} (hpl : pl.magicAccessors = ({} : Platform).magicAccessors) {top : MethodId} (htop : s.methodNamed? (Bundle.initS Bundle.tN) = some top)
    {ix : Nat} {rx : ByteArray} (x0 : decode rx 0 = .ok (.aload_n 0, 1)) (x1 : decode rx 1 = .ok (.aload_n 1, 1)) (x2 : decode rx 2 = .ok (.invokespecial ix, 3)) (x5 : decode rx 5 = .ok (.return_, 1))
    {X Y : String} {r : List String} (hX : Bundle.fit X = true) (hY : Bundle.fit Y = true) (hn : ∀ n ∈ r, Bundle.fit n = true) (h : ∀ c ∈ fx_chainA X ix rx Y r, c.before args s = true) :
      ∃ (P1 : PassC) (Ps : List PassC), Ps.length = r.length + 1 ∧ P1.LinksS pl s ∧ (∀ P, P ∈ Ps → P.LinksS pl s) ∧ s.methodNamed? (Bundle.initS X) = some P1.m ∧
        P1.sup = firstOf top (Ps.map (·.toPassT)) ∧ PassesOn top (Ps.map (·.toPassT)) := by
  obtain ⟨P, L, hm, hs⟩ := PassC.ofS_atoms (args := args) (s := s) hpl (X := X) (Y := Y) (Bundle.fit_spec hX).1 (Bundle.fit_spec hY).2 x0 x1 x2 x5 (fun c hc => h c (List.mem_append_left _ hc))
  obtain ⟨P', Ps, hlen, L', hL, hm', hsup, hpass⟩ := Bundle.chainS (args := args) hpl htop r Y hY hn (fun c hc => h c (List.mem_append_right _ hc))
  refine ⟨P, P' :: Ps, by simp [hlen], L, ?_, hm, Option.some.inj (hs.symm.trans hm'), hsup, hpass⟩
  intro Q hQ
  rcases List.mem_cons.mp hQ with rfl | hQ
  · exact L'
  · exact hL Q hQ
def fx_own (own : String) (ic : Nat) (X : String) (ix : Nat) (rx : ByteArray) (Y : String) (r : List String) : List Cond :=
  Bundle.throwableAtoms ++ Bundle.throwableSAtoms ++ fx_chainA X ix rx Y r ++
  [.methodLink own ic (Bundle.initS X), .instantiable X 6, .castable X X, .selects X Bundle.tFill0 Bundle.tFill0, .selects X Bundle.tFill Bundle.tFill,
   .lays X Bundle.tN "cause" "Ljava/lang/Throwable;", .lays X Bundle.tN "stackTrace" Bundle.steD, .lays X Bundle.tN "suppressedExceptions" Bundle.listD, .lays X Bundle.tN "detailMessage" "Ljava/lang/String;",
   .isRef (.static Bundle.tN "UNASSIGNED_STACK" Bundle.steD), .isRef (.static Bundle.tN "SUPPRESSED_SENTINEL" Bundle.listD),
   .fieldLink Bundle.tN 198 Bundle.tN "backtrace" "Ljava/lang/Object;", .lays Bundle.tN Bundle.tN "backtrace" "Ljava/lang/Object;", .lays X Bundle.tN "backtrace" "Ljava/lang/Object;"]
def fx_atS (own : String) (ic : Nat) (X : String) (ix : Nat) (rx : ByteArray) (Y : String) (r : List String) : List Cond := (fx_own own ic X ix rx Y r).filter vx_no
def fx_rx : ByteArray := ⟨#[0x2a, 0x2b, 0xb7, 0x00, 0x0d, 0xb1]⟩
def fx_at200 : List Cond := fx_atS RX4 200 "java/util/NoSuchElementException" 13 fx_rx "java/lang/RuntimeException" ["java/lang/Exception"]
section
variable {m₀ : MethodId} {W : State}
set_option maxHeartbeats 1000000 in
theorem fx_ctor (X : Stand p l e R s m₀ args below meth c W locs cells slots) (hexec : p.tables.exec = Jvm.exec) (htr : e.platform.stackTraces = false) {own cls Y9 : String} {names : List String} {ic ix : Nat} {rx : ByteArray} (x0 : decode rx 0 = .ok (.aload_n 0, 1)) (x1 : decode rx 1 = .ok (.aload_n 1, 1)) (x2 : decode rx 2 = .ok (.invokespecial ix, 3)) (x5 : decode rx 5 = .ok (.return_, 1))
    (hown : s.vm.findClass own = some m₀.cls) (hcls : Bundle.fit cls = true) (hY9 : Bundle.fit Y9 = true) (hnames : ∀ n ∈ names, Bundle.fit n = true)
    (h : ∀ a ∈ fx_own own ic cls ix rx Y9 names, a.before args s = true)
    (hlocs : ∀ x ∈ locs, ∀ cell, s.heap[x.base]? = some cell → cell.vm.isStatics = false)
    {a : Addr} {cX : ClassId} {kX : Class} (hfoundX : s.vm.findClass cls = some cX) (hkX : s.vm.classes[cX]? = some kX) (hcell : W.heap[a]? = some (freshCell cX kX)) (hnew : s.heap.size ≤ a)
    {msg : Value} (hmsg : msg.isRef = true)
    {g : JFrame} (hg : g.method = m₀) (hsize : g.locals.size = c.maxLocals) (hlocked : g.locked = none) (hentered : g.entered = []) {rest : List Value} (hstack : g.stack = msg :: .ref a :: .ref a :: rest)
    (hd6 : decode c.code g.pc = .ok (.invokespecial ic, 3)) (hd9 : decode c.code (g.pc + 3) = .ok (.athrow, 1)) (hout : ∀ x ∈ c.exceptionTable.toList, covers x (g.pc + 3) = false)
    (hRframes : names.length + 4 < R.frames) (hRlocals : 2 * g.monitorRoom + ((Value.ref a :: rest).map fun v => v.category).sum + (13 * (names.length + 2) + 42) ≤ R.locals) (hlocks : meth.locks = false := by first | assumption | exact BodyLoose.notSynchronized (by assumption) | exact Body.notSynchronized (by assumption)) :
    ∃ U : State, Steps p.tables e below (W.setTop g) U ∧ U.status = .running ∧ Ended U below (.threw a) ∧ s.WarmedH U.vm ∧ s.sameButNew ({ U with vm := s.vm } : State) locs cells slots ∧
      ∃ ce, U.heap[a]? = some ce ∧ ce.cls = cX ∧ ce.vm = .none := by
  have howns : e.platform.frameOwnsMonitors = true := by rw [X.admits.platform]
  have hfin : e.platform.finalization = false := by rw [X.admits.platform]
  have hpl : e.platform.magicAccessors = ({} : Platform).magicAccessors := by rw [X.admits.platform]
  have a' : ∀ x, x ∈ fx_own own ic cls ix rx Y9 names → x.holds args s none s [] = true := fun x hx => h x hx
  obtain ⟨T, Z0, L, -, Y⟩ := ThrowableC.of_atoms (args := args) howns hfin hpl (fun x hx => h x (by simp [fx_own, hx]))
  obtain ⟨Z, M, LZ, LM, hnZ⟩ := Init0T.ofS_atoms (args := args) hpl L Y (fun x hx => h x (by simp [fx_own, hx]))
  obtain ⟨P1, Ps, hlen, L1, hL, hP1m, hlink1, hlink⟩ := fx_chain (args := args) hpl hnZ x0 x1 x2 x5 hcls hY9 hnames (fun x hx => h x (by simp [fx_own, hx]))
  have hfound : s.vm.findClass cls = some P1.m.cls := findClass_of_methodNamed hP1m
  cases Option.some.inj (hfoundX.symm.trans hfound)
  obtain ⟨c1, kX', hc1, hk, hord, -, -, hn6⟩ := Cond.instantiable_spec (a' (.instantiable cls 6) (by simp [fx_own]))
  cases Option.some.inj (hc1.symm.trans hfound)
  cases Option.some.inj (hkX.symm.trans hk)
  have hsel0 : selectMethod e.platform s.vm P1.m.cls T.fill0 = .method T.fill0 := by
    obtain ⟨c2, r2, m2, q1, q2, q3, q4, -⟩ := Cond.selects_spec (a' (.selects cls Bundle.tFill0 Bundle.tFill0) (by simp [fx_own]))
    cases Option.some.inj (q1.symm.trans hfound)
    cases Option.some.inj (q2.symm.trans (State.methodFound?_of_named Y.fill0 (by decide)))
    cases Option.some.inj (q3.symm.trans Y.fill0)
    rw [Launch.admits_selectMethod X.admits]; exact q4
  have hselF : selectMethod e.platform s.vm P1.m.cls T.fill = .method T.fill := by
    obtain ⟨c2, r2, m2, q1, q2, q3, q4, -⟩ := Cond.selects_spec (a' (.selects cls Bundle.tFill Bundle.tFill) (by simp [fx_own]))
    cases Option.some.inj (q1.symm.trans hfound)
    cases Option.some.inj (q2.symm.trans (State.methodFound?_of_named Y.fill (by decide)))
    cases Option.some.inj (q3.symm.trans Y.fill)
    rw [Launch.admits_selectMethod X.admits]; exact q4
  obtain ⟨cellS0, hcS0, hiss⟩ := Y.statics
  obtain ⟨u0, hu0⟩ := Cond.staticRefV Y.unassigned L.unassignedStatic L.statics hcS0 hiss (a' (.isRef (.static Bundle.tN "UNASSIGNED_STACK" Bundle.steD)) (by simp [fx_own]))
  obtain ⟨sen, hsen⟩ := Cond.staticRefV Y.sentinel L.sentinelStatic L.statics hcS0 hiss (a' (.isRef (.static Bundle.tN "SUPPRESSED_SENTINEL" Bundle.listD)) (by simp [fx_own]))
  obtain ⟨ci198, i198, fB, hk198, hg198, ha198, hsB, -, hnB, htB, hffB⟩ := Cond.ownField (t := .object "java/lang/Object") Y.found L.cls (by decide +kernel) (a' (.fieldLink Bundle.tN 198 Bundle.tN "backtrace" "Ljava/lang/Object;") (by simp [fx_own])) (a' (.lays Bundle.tN Bundle.tN "backtrace" "Ljava/lang/Object;") (by simp [fx_own])) e.platform hpl
  obtain ⟨cellS, hcS', heS, -, hkeep⟩ := X.same.2.2.2.2.2 T.aS cellS0 hcS0
  have hcellS : W.heap[T.aS]? = some cellS := hcS'
  have hout' : ∀ i, (⟨T.aS, i⟩ : Loc) ∉ locs := fun i hmem => by
    have := hlocs _ hmem cellS0 hcS0
    rw [hiss] at this; cases this
  have hknownS : cellS.vm ≠ .unknown := by
    rw [heS]; intro hu
    rw [show cellS0.vm = .unknown from hu] at hiss
    cases hiss
  have hneS : T.aS ≠ a := Nat.ne_of_lt (Nat.lt_of_lt_of_le (Array.getElem?_eq_some_iff.mp hcS0).1 hnew)
  obtain ⟨iM, hffM⟩ := Y.msg
  obtain ⟨tyC, dC, hdC, hdnC⟩ := Cond.laysAt hfound hk Y.cause (a' (.lays cls Bundle.tN "cause" "Ljava/lang/Throwable;") (by simp [fx_own]))
  obtain ⟨tyS, dS, hdS, hdnS⟩ := Cond.laysAt hfound hk Y.stack (a' (.lays cls Bundle.tN "stackTrace" Bundle.steD) (by simp [fx_own]))
  obtain ⟨tyP, dP, hdP, hdnP⟩ := Cond.laysAt hfound hk Y.supp (a' (.lays cls Bundle.tN "suppressedExceptions" Bundle.listD) (by simp [fx_own]))
  obtain ⟨tyM, dM, hdM, hdnM⟩ := Cond.laysAt hfound hk hffM (a' (.lays cls Bundle.tN "detailMessage" "Ljava/lang/String;") (by simp [fx_own]))
  obtain ⟨tyB, dB, hdB, hdnB⟩ := Cond.laysAt hfound hk hffB (a' (.lays cls Bundle.tN "backtrace" "Ljava/lang/Object;") (by simp [fx_own]))
  have bC := Cond.laysApart hdB hdC hdnB hdnC (by rw [hnB, Y.causeName]; decide)
  have bS := Cond.laysApart hdB hdS hdnB hdnS (by rw [hnB, Y.stackName]; decide)
  have bP := Cond.laysApart hdB hdP hdnB hdnP (by rw [hnB, Y.suppName]; decide)
  have hskip : SkipFacts T e.platform s (fun u => u) u0 ((preparedCellV T.toThrowableT (freshCell P1.m.cls kX) a u0 sen).withEntry W.cur) :=
    ⟨{ ci198 := ci198, i198 := i198, fBack := fB }, ⟨hk198, hg198, ha198, hsB⟩, by
      have := fresh_default (c := P1.m.cls) tyB
      rw [htB] at this
      simpa [preparedCellV, Cell.setSlot, Cell.withEntry, Array.getElem?_setIfInBounds, bC, bS, bP, bC.symm, bS.symm, bP.symm, defaultValue] using this, fun _ _ => rfl⟩
  obtain ⟨tm, methC, cdC, kC, vm₁, hnC, -, -, -, -, -, -, -, hW₁, st1⟩ := Steps.initColdS (tb := p.tables) (e := e) (below := below) (s := s) (U := W) X.here hexec X.warmed hpl hown (t := Bundle.initS cls) rfl rfl (Bundle.fit_spec hcls).2
    (a' (.methodLink own ic (Bundle.initS cls)) (by simp [fx_own])) (h (.instanceMethod (Bundle.initS cls)) (by simp [fx_own, fx_chainA, Bundle.passSAtoms])) (bytes := rx) (maxL := 2) (h (.code (Bundle.initS cls) rx 2 none) (by simp [fx_own, fx_chainA, Bundle.passSAtoms]))
    (f := g) hg (a := a) (msg := msg) (rest := .ref a :: rest) hstack hd6
  cases Option.some.inj (hnC.symm.trans hP1m)
  have X₁ := X.noted hW₁
  obtain ⟨vm₂, X₂, st2⟩ := X₁.ctorMessageOffV hexec (g := { g with stack := .ref a :: rest }) hg hsize T L Z LZ M LM (P1 :: Ps)
    (fun P hP => by rcases List.mem_cons.mp hP with rfl | hP; exact L1; exact hL P hP) ⟨hlink1, hlink⟩ (u0 := u0) (sen := sen) (self := a) hmsg (cell := freshCell P1.m.cls kX) (cellS := cellS)
    hcell (fun _ => by simp) (by simp) rfl rfl hsel0 hselF hcellS hneS hknownS (by rw [hkeep _ (hout' _)]; exact hu0) (by rw [hkeep _ (hout' _)]; exact hsen)
    (Takes.of_laid hk hord tyC (by rw [Y.causeType]; rfl)) (Takes.of_laid hk hord tyS (by rw [Y.stackType]; exact fits_refV_array _ u0)) (Takes.of_laid hk hord tyP (by rw [Y.suppType]; exact fits_refV_object _ sen))
    (Takes.of_laid hk hord tyM (by rw [Y.msgType]; exact fits_refV_object _ ⟨msg, hmsg⟩)) Y.objLocals hskip htr [] hd6
    (by simp only [List.length_cons, hlen]; omega) (by simp only [List.length_cons, hlen]; exact hRlocals)
  obtain ⟨hwalk, hrun, hended, hWU, hsame⟩ := X₂.athrowLeaves hexec (g := { g with stack := .ref a :: rest, pc := g.pc + 3 }) hg hlocked hentered hout (a := a) (rest := rest) rfl hd9
  have hlt : a < ((W.setVm vm₁).setVm vm₂).heap.size := (Array.getElem?_eq_some_iff.mp hcell).1
  have hU := heapAt_setCell_self (s := (W.setVm vm₁).setVm vm₂) (plainBareV T.toThrowableT (freshCell P1.m.cls kX) a u0 sen msg) hlt
  refine ⟨_, st1 _ (fun acts => ?_), hrun, hended, hWU, hsame.weaken (fun y hy hlt' => ?_) (Nat.le_refl _) (Nat.le_refl _), _, hU, rfl, rfl⟩
  · rw [doInvoke_state]
    exact st2 _ hwalk
  · rcases List.mem_append.mp hy with h1 | h1
    · exact h1
    · exfalso
      have hb : y.base = a := by
        simp only [List.mem_cons, List.not_mem_nil, or_false] at h1
        rcases h1 with rfl | rfl | rfl | rfl | rfl <;> rfl
      rw [hb] at hlt'
      exact Nat.not_lt.mpr hnew hlt'

end
section
variable {m : MethodId} {H : Heap} {mc ms : Nat} {free : Addr → Prop} {ls : Array Slot} {rest : List Value}
variable {Qc : Array Value → State → Outcome → State → Prop} {XC : String → State → State → Prop}
set_option maxHeartbeats 1000000 in
theorem fx_throwS {cc : ByteArray} {pc : Nat} (hexec : p.tables.exec = Jvm.exec) (hb : c.code = cc) (hl : l.stackTraces = false) {own cls Y9 text : String} {names : List String} {ik is ic ix mc ms sa : Nat} {rx : ByteArray} (x0 : decode rx 0 = .ok (.aload_n 0, 1)) (x1 : decode rx 1 = .ok (.aload_n 1, 1)) (x2 : decode rx 2 = .ok (.invokespecial ix, 3)) (x5 : decode rx 5 = .ok (.return_, 1)) {A : Nat → Prop}
    (hown : s.vm.findClass own = some m.cls) (hcls : Bundle.fit cls = true) (hY9 : Bundle.fit Y9 = true) (hnames : ∀ n ∈ names, Bundle.fit n = true)
    (hk : (Cond.classLink own ik cls).before args s = true) (hini : (Cond.initialized cls).before args s = true) (hstr : vk_R own is text sa s) (hat : ∀ w ∈ fx_atS own ic cls ix rx Y9 names, w.before args s = true)
    (hgood : ∀ w ∈ Cond.classLink own ik cls :: Cond.initialized cls :: fx_atS own ic cls ix rx Y9 names, vx_ot w = true)
    (hU : vx_Zq Bundle.tN "UNASSIGNED_STACK" Bundle.steD A s s.heap) (hN : vx_Zq Bundle.tN "SUPPRESSED_SENTINEL" Bundle.listD A s s.heap) (hS : va_S A s.heap H locs) (hsize : ls.size = c.maxLocals)
    (d0 : decode cc pc = .ok (.new ik, 3)) (d3 : decode cc (pc + 3) = .ok (.dup, 1)) (d4 : decode cc (pc + 4) = .ok (.ldc is, 2)) (d6 : decode cc (pc + 6) = .ok (.invokespecial ic, 3)) (d9 : decode cc (pc + 9) = .ok (.athrow, 1))
    (hout : ∀ x ∈ c.exceptionTable.toList, covers x (pc + 9) = false)
    (hRframes : names.length + 4 < R.frames) (hRlocals : (rest.map fun v => v.category).sum + (13 * (names.length + 2) + 43) ≤ R.locals) (hRcells : cells + 1 ≤ R.cells) (hRslots : slots + 6 ≤ R.slots) (hlocks : meth.locks = false)
    (hx : ∀ t : State, s.vm.Alike t.vm → H.size ≤ t.heap.size → (∀ q : Nat, q < H.size → t.heap[q]? = H[q]?) → XC cls s t)
    (hf : ∀ z ∈ locs, free z.base) (hc : cells + 1 ≤ mc) (hs : slots + 6 ≤ ms) :
    W p l e R s m args below meth c H locs cells slots (vx_MQ below Qc XC args s mc ms free) (F0 m pc ls rest) := by
  intro T hT X
  have htr : e.platform.stackTraces = false := (show e.platform.stackTraces = l.stackTraces by rw [X.admits.platform]).trans hl
  have Y := vx_rebase X (R' := { frames := R.frames, locals := R.locals, cells := 1, slots := 6 }) (Nat.le_refl _) (Nat.le_refl _) hRcells hRslots
  obtain ⟨s', hA⟩ : ∃ z, z = (T.setVm s.vm).setFrames (.invoking m args :: below) := ⟨_, rfl⟩
  rw [← hA] at Y
  have hvm : s'.vm = s.vm := by rw [hA]; rfl
  have hhp : s'.heap = H := by rw [hA]; exact hT
  have hW0 : s.WarmedH s'.vm := by rw [hvm]; exact State.WarmedH.refl s
  have hat' : ∀ w ∈ fx_atS own ic cls ix rx Y9 names, w.before args s' = true := fun w hw => vx_ot_at hW0 hvm.symm (hgood w (List.mem_cons_of_mem _ (List.mem_cons_of_mem _ hw))) (hat w hw)
  have hk' : (Cond.classLink own ik cls).before args s' = true := vx_ot_at hW0 hvm.symm (hgood _ List.mem_cons_self) hk
  have hini' : (Cond.initialized cls).before args s' = true := vx_ot_at hW0 hvm.symm (hgood _ (List.mem_cons_of_mem _ List.mem_cons_self)) hini
  have hU' : vx_Zq Bundle.tN "UNASSIGNED_STACK" Bundle.steD A s' s'.heap := by rw [hhp]; exact vx_Zq.moved hW0.alike (hU.kept hS.2.1)
  have hN' : vx_Zq Bundle.tN "SUPPRESSED_SENTINEL" Bundle.listD A s' s'.heap := by rw [hhp]; exact vx_Zq.moved hW0.alike (hN.kept hS.2.1)
  have h : ∀ w ∈ fx_own own ic cls ix rx Y9 names, w.before args s' = true := vx_own hat' (vx_isRefq hU'.1) (vx_isRefq hN'.1) hU'.2.word hN'.2.word
  have hown' : s'.vm.findClass own = some m.cls := by rw [hvm]; exact hown
  have hins : (Cond.instantiable cls 6).before args s' = true := h _ (by simp [fx_own])
  obtain ⟨vm₁, cX, kX, hfX, hkX, -, -, X₁, st1⟩ := Y.newCold hexec (own := own) (C := cls) (index := ik) (n := 6) hown' hk' hins hini'
    (g := F0 m pc ls rest) rfl (by rw [hb]; exact d0) (Nat.le_refl _) (Nat.le_refl _)
  generalize hT1 : (T.setVm vm₁).pushCell { cls := cX, slots := kX.instanceTypes.map defaultValue, vm := .none } = T1 at X₁ st1
  have hcat : (Value.ref T.heap.size).category = 1 := rfl
  have hcellA : T1.heap[T.heap.size]? = some (freshCell cX kX) := by rw [← hT1]; exact State.heap_pushCell_size _ _
  have d3' : decode c.code (pc + 3) = .ok (.dup, 1) := by rw [hb]; exact d3
  have d4' : decode c.code (pc + 4) = .ok (.ldc is, 2) := by rw [hb]; exact d4
  have hstr' : vk_R own is text sa s' := vk_R.warm hW0 hstr
  obtain ⟨U, hsteps, hrun, hend, hW, hsame, ce, hce, hOc, hOv⟩ := fx_ctor X₁ hexec htr (own := own) (cls := cls) (Y9 := Y9) (names := names) (ic := ic) x0 x1 x2 x5 hown' hcls hY9 hnames h (fun x hx => nomatch hx) hfX hkX hcellA (by rw [hhp, hT]; exact Nat.le_refl _) (msg := .ref sa) rfl
    (g := { method := m, pc := pc + 6, locals := ls, stack := .ref sa :: .ref T.heap.size :: .ref T.heap.size :: rest, locked := none }) rfl hsize rfl rfl (rest := rest) rfl
    (by rw [hb]; exact d6) (by rw [hb]; exact d9) hout hRframes (by simp only [List.map_cons, List.sum_cons, hcat]; omega) hlocks
  obtain ⟨f1, f2⟩ := vx_frame hsame
  rw [hhp] at f1 f2
  have hWs : s.WarmedH U.vm := State.WarmedH.trans hW0 hW
  have hcl : s.vm.findClass cls = some ce.cls := by
    rw [hOc, ← hvm]
    exact hfX
  have hall : s.sameButNew ({ U with vm := s.vm } : State) locs mc ms := by
    subst hA
    obtain ⟨e1, e2⟩ := hsame
    rw [State.setFrames_setFrames] at e1
    have h2 : (T.setVm s.vm).sameButNew ({ U with vm := s.vm } : State) [] (0 + 1) (0 + 6) := ⟨e1, e2⟩
    have h3 := X.same.trans h2
    rw [List.append_nil] at h3
    exact h3.mono hc hs
  refine ⟨U, ?_, .threw T.heap.size, hrun, hend, Or.inr ⟨T.heap.size, rfl, cls, ce, locs, hx U hWs.alike f1 (fun q hq => f2 q hq (fun z hz => nomatch hz)), hce, hOv, hcl, hWs, hall, hf⟩⟩
  refine st1 _ ?_
  show Steps p.tables e below (T1.setTop { method := m, pc := pc + 3, locals := ls, stack := .ref T.heap.size :: rest, locked := none }) _
  jvm_step X₁.here [X₁.here.top, hexec, d3', Value.category]
  exact X₁.ldcString hexec (own := own) (text := text) (index := is) (a := sa) hown' hstr'.1 hstr'.2
    (g := { method := m, pc := pc + 4, locals := ls, stack := .ref T.heap.size :: .ref T.heap.size :: rest, locked := none }) rfl d4' _ hsteps
end
end FXT
def wsX0_init : List Cond := .code yX0_init cX0_init 1 none :: ([.methodLink RX0 3 objectInit, .instanceMethod objectInit, .code objectInit ⟨#[0xb1]⟩ 1 none, .arrayClass .int, .fieldLink RX0 11 "Formationist$LinkCounts" "linksWithin" "[I"] ++ wsX00)
def wsJ7_fill_53178 : List Cond := .code yJ7_fill_53178 cJ7_fill_53178 4 none :: ([])
def wsX1_with : List Cond := .code yX1_with cX1_with 2 (some .int) :: ([])
def wsX1_holds : List Cond := .code yX1_holds cX1_holds 2 (some .boolean) :: ([])
def wsX1_joins : List Cond := .code yX1_joins cX1_joins 3 (some .boolean) :: ([.fieldLink RX1 9 "Formationist$Net" "others" "[I", .methodLink RX1 28 yX1_holds, .static yX1_holds, .initialized RX1, .code yX1_holds cX1_holds 2 (some .boolean)] ++ wsX10)
def wsJ6_bitCount_0f7a4 : List Cond := .code yJ6_bitCount_0f7a4 cJ6_bitCount_0f7a4 1 (some .int) :: ([.constant RJ6 265 (1431655765), .constant RJ6 266 (858993459), .constant RJ6 267 (252645135)])
def wsX0_leavesFree : List Cond := .code yX0_leavesFree cX0_leavesFree 4 (some .boolean) :: ([.fieldLink RX0 11 "Formationist$LinkCounts" "linksWithin" "[I", .methodLink RX0 39 yJ6_bitCount_0f7a4, .static yJ6_bitCount_0f7a4, .initialized RJ6, .code yJ6_bitCount_0f7a4 cJ6_bitCount_0f7a4 1 (some .int), .constant RJ6 265 (1431655765), .constant RJ6 266 (858993459), .constant RJ6 267 (252645135)] ++ wsX00)
def wsX0_keepLink : List Cond := .code yX0_keepLink cX0_keepLink 3 none :: ([.fieldLink RX0 11 "Formationist$LinkCounts" "linksWithin" "[I"] ++ wsX00)
def wsX0_rankOf_r1 : List Cond := [Cond.fieldLink RX0 11 "Formationist$LinkCounts" "linksWithin" "[I", Cond.methodLink RX0 15 yJ7_fill_53178, Cond.static yJ7_fill_53178, Cond.initialized RJ7, Cond.code yJ7_fill_53178 cJ7_fill_53178 4 none, Cond.static yX1_with, Cond.initialized RX1, Cond.code yX1_with cX1_with 2 (some .int), Cond.instanceMethod yX1_joins, Cond.selects RX1 yX1_joins yX1_joins, Cond.code yX1_joins cX1_joins 3 (some .boolean), Cond.fieldLink RX1 9 "Formationist$Net" "others" "[I", Cond.methodLink RX1 28 yX1_holds, Cond.static yX1_holds, Cond.code yX1_holds cX1_holds 2 (some .boolean), Cond.methodLink RX0 31 yX0_leavesFree, Cond.instanceMethod yX0_leavesFree, Cond.selects RX0 yX0_leavesFree yX0_leavesFree, Cond.initialized RX0, Cond.code yX0_leavesFree cX0_leavesFree 4 (some .boolean), Cond.methodLink RX0 39 yJ6_bitCount_0f7a4, Cond.static yJ6_bitCount_0f7a4, Cond.initialized RJ6, Cond.code yJ6_bitCount_0f7a4 cJ6_bitCount_0f7a4 1 (some .int)]
def wsX0_rankOf_r2 : List Cond := [Cond.constant RJ6 265 (1431655765), Cond.constant RJ6 266 (858993459), Cond.constant RJ6 267 (252645135), Cond.methodLink RX0 35 yX0_keepLink, Cond.instanceMethod yX0_keepLink, Cond.selects RX0 yX0_keepLink yX0_keepLink, Cond.code yX0_keepLink cX0_keepLink 3 none]
def wsX0_rankOf : List Cond := .code yX0_rankOf cX0_rankOf 6 (some .int) :: ((wsX0_rankOf_r1 ++ wsX0_rankOf_r2) ++ wsX00 ++ wsX10)
def wsX1_init : List Cond := .code yX1_init cX1_init 1 none :: ([.methodLink RX1 3 objectInit, .instanceMethod objectInit, .code objectInit ⟨#[0xb1]⟩ 1 none, .arrayClass .int, .fieldLink RX1 9 "Formationist$Net" "others" "[I"] ++ wsX10)
def wsX1_without : List Cond := .code yX1_without cX1_without 2 (some .int) :: ([])
def wsX1_clear : List Cond := .code yX1_clear cX1_clear 1 none :: ([.fieldLink RX1 9 "Formationist$Net" "others" "[I", .methodLink RX1 15 yJ7_fill_53178, .static yJ7_fill_53178, .initialized RJ7, .code yJ7_fill_53178 cJ7_fill_53178 4 none] ++ wsX10)
def wsX1_join : List Cond := .code yX1_join cX1_join 3 none :: ([.fieldLink RX1 9 "Formationist$Net" "others" "[I", .methodLink RX1 21 yX1_with, .static yX1_with, .initialized RX1, .code yX1_with cX1_with 2 (some .int)] ++ wsX10)
def wsX1_cut : List Cond := .code yX1_cut cX1_cut 3 none :: ([.fieldLink RX1 9 "Formationist$Net" "others" "[I", .methodLink RX1 25 yX1_without, .static yX1_without, .initialized RX1, .code yX1_without cX1_without 2 (some .int)] ++ wsX10)
def wsX1_degreeOf : List Cond := .code yX1_degreeOf cX1_degreeOf 2 (some .int) :: ([.fieldLink RX1 9 "Formationist$Net" "others" "[I", .methodLink RX1 32 yJ6_bitCount_0f7a4, .static yJ6_bitCount_0f7a4, .initialized RJ6, .code yJ6_bitCount_0f7a4 cJ6_bitCount_0f7a4 1 (some .int), .constant RJ6 265 (1431655765), .constant RJ6 266 (858993459), .constant RJ6 267 (252645135)] ++ wsX10)
def wsX1_pairCount : List Cond := .code yX1_pairCount cX1_pairCount 3 (some .int) :: ([.methodLink RX1 38 yX1_degreeOf, .instanceMethod yX1_degreeOf, .selects RX1 yX1_degreeOf yX1_degreeOf, .initialized RX1, .code yX1_degreeOf cX1_degreeOf 2 (some .int), .fieldLink RX1 9 "Formationist$Net" "others" "[I", .methodLink RX1 32 yJ6_bitCount_0f7a4, .static yJ6_bitCount_0f7a4, .initialized RJ6, .code yJ6_bitCount_0f7a4 cJ6_bitCount_0f7a4 1 (some .int), .constant RJ6 265 (1431655765), .constant RJ6 266 (858993459), .constant RJ6 267 (252645135)] ++ wsX10)
def wsX1_groupOf : List Cond := .code yX1_groupOf cX1_groupOf 6 (some .int) :: ([.fieldLink RX1 9 "Formationist$Net" "others" "[I", .methodLink RX1 21 yX1_with, .static yX1_with, .initialized RX1, .code yX1_with cX1_with 2 (some .int), .methodLink RX1 28 yX1_holds, .static yX1_holds, .code yX1_holds cX1_holds 2 (some .boolean)] ++ wsX10)
def wsX2_init : List Cond := .code yX2_init cX2_init 1 none :: ([.methodLink RX2 3 objectInit, .instanceMethod objectInit, .code objectInit ⟨#[0xb1]⟩ 1 none, .arrayClass .int, .fieldLink RX2 9 "Formationist$PebbleGame" "pebbles" "[I", .fieldLink RX2 15 "Formationist$PebbleGame" "arcs" "[I", .fieldLink RX2 18 "Formationist$PebbleGame" "cameFrom" "[I"] ++ wsX20)
def wsX2_noteWay : List Cond := .code yX2_noteWay cX2_noteWay 4 none :: ([.fieldLink RX2 18 "Formationist$PebbleGame" "cameFrom" "[I", .static yX1_holds, .initialized RX1, .code yX1_holds cX1_holds 2 (some .boolean)] ++ wsX20)
def wsX2_holderAmong : List Cond := .code yX2_holderAmong cX2_holderAmong 3 (some .int) :: ([.fieldLink RX2 9 "Formationist$PebbleGame" "pebbles" "[I", .static yX1_holds, .initialized RX1, .code yX1_holds cX1_holds 2 (some .boolean)] ++ wsX20)
def wsX2_findPebble : List Cond := .code yX2_findPebble cX2_findPebble 9 (some .int) :: ([.fieldLink RX2 18 "Formationist$PebbleGame" "cameFrom" "[I", .fieldLink RX2 15 "Formationist$PebbleGame" "arcs" "[I", .methodLink RX2 21 yJ7_fill_53178, .static yJ7_fill_53178, .initialized RJ7, .code yJ7_fill_53178 cJ7_fill_53178 4 none, .static yX1_with, .initialized RX1, .code yX1_with cX1_with 2 (some .int), .static yX1_holds, .code yX1_holds cX1_holds 2 (some .boolean), .methodLink RX2 53 yX2_noteWay, .instanceMethod yX2_noteWay, .selects RX2 yX2_noteWay yX2_noteWay, .initialized RX2, .code yX2_noteWay cX2_noteWay 4 none, .methodLink RX2 57 yX2_holderAmong, .instanceMethod yX2_holderAmong, .selects RX2 yX2_holderAmong yX2_holderAmong, .code yX2_holderAmong cX2_holderAmong 3 (some .int), .fieldLink RX2 9 "Formationist$PebbleGame" "pebbles" "[I"] ++ wsX20)
def wsX2_turnArcs : List Cond := .code yX2_turnArcs cX2_turnArcs 5 none :: ([.fieldLink RX2 18 "Formationist$PebbleGame" "cameFrom" "[I", .fieldLink RX2 15 "Formationist$PebbleGame" "arcs" "[I", .static yX1_without, .initialized RX1, .code yX1_without cX1_without 2 (some .int), .static yX1_with, .code yX1_with cX1_with 2 (some .int)] ++ wsX20)
def wsX2_fetchPebble_r1 : List Cond := [Cond.fieldLink RX2 9 "Formationist$PebbleGame" "pebbles" "[I", Cond.methodLink RX2 43 yX2_findPebble, Cond.instanceMethod yX2_findPebble, Cond.selects RX2 yX2_findPebble yX2_findPebble, Cond.initialized RX2, Cond.code yX2_findPebble cX2_findPebble 9 (some .int), Cond.fieldLink RX2 18 "Formationist$PebbleGame" "cameFrom" "[I", Cond.fieldLink RX2 15 "Formationist$PebbleGame" "arcs" "[I", Cond.methodLink RX2 21 yJ7_fill_53178, Cond.static yJ7_fill_53178, Cond.initialized RJ7, Cond.code yJ7_fill_53178 cJ7_fill_53178 4 none, Cond.static yX1_with, Cond.initialized RX1, Cond.code yX1_with cX1_with 2 (some .int), Cond.static yX1_holds, Cond.code yX1_holds cX1_holds 2 (some .boolean), Cond.methodLink RX2 53 yX2_noteWay, Cond.instanceMethod yX2_noteWay, Cond.selects RX2 yX2_noteWay yX2_noteWay, Cond.code yX2_noteWay cX2_noteWay 4 none, Cond.methodLink RX2 57 yX2_holderAmong, Cond.instanceMethod yX2_holderAmong, Cond.selects RX2 yX2_holderAmong yX2_holderAmong]
def wsX2_fetchPebble_r2 : List Cond := [Cond.code yX2_holderAmong cX2_holderAmong 3 (some .int), Cond.methodLink RX2 46 yX2_turnArcs, Cond.instanceMethod yX2_turnArcs, Cond.selects RX2 yX2_turnArcs yX2_turnArcs, Cond.code yX2_turnArcs cX2_turnArcs 5 none, Cond.static yX1_without, Cond.code yX1_without cX1_without 2 (some .int)]
def wsX2_fetchPebble : List Cond := .code yX2_fetchPebble cX2_fetchPebble 4 (some .boolean) :: ((wsX2_fetchPebble_r1 ++ wsX2_fetchPebble_r2) ++ wsX20)
def wsX2_gatherPebbles_r1 : List Cond := [Cond.fieldLink RX2 9 "Formationist$PebbleGame" "pebbles" "[I", Cond.methodLink RX2 40 yX2_fetchPebble, Cond.instanceMethod yX2_fetchPebble, Cond.selects RX2 yX2_fetchPebble yX2_fetchPebble, Cond.initialized RX2, Cond.code yX2_fetchPebble cX2_fetchPebble 4 (some .boolean), Cond.methodLink RX2 43 yX2_findPebble, Cond.instanceMethod yX2_findPebble, Cond.selects RX2 yX2_findPebble yX2_findPebble, Cond.code yX2_findPebble cX2_findPebble 9 (some .int), Cond.fieldLink RX2 18 "Formationist$PebbleGame" "cameFrom" "[I", Cond.fieldLink RX2 15 "Formationist$PebbleGame" "arcs" "[I", Cond.methodLink RX2 21 yJ7_fill_53178, Cond.static yJ7_fill_53178, Cond.initialized RJ7, Cond.code yJ7_fill_53178 cJ7_fill_53178 4 none, Cond.static yX1_with, Cond.initialized RX1, Cond.code yX1_with cX1_with 2 (some .int), Cond.static yX1_holds, Cond.code yX1_holds cX1_holds 2 (some .boolean), Cond.methodLink RX2 53 yX2_noteWay, Cond.instanceMethod yX2_noteWay, Cond.selects RX2 yX2_noteWay yX2_noteWay]
def wsX2_gatherPebbles_r2 : List Cond := [Cond.code yX2_noteWay cX2_noteWay 4 none, Cond.methodLink RX2 57 yX2_holderAmong, Cond.instanceMethod yX2_holderAmong, Cond.selects RX2 yX2_holderAmong yX2_holderAmong, Cond.code yX2_holderAmong cX2_holderAmong 3 (some .int), Cond.methodLink RX2 46 yX2_turnArcs, Cond.instanceMethod yX2_turnArcs, Cond.selects RX2 yX2_turnArcs yX2_turnArcs, Cond.code yX2_turnArcs cX2_turnArcs 5 none, Cond.static yX1_without, Cond.code yX1_without cX1_without 2 (some .int)]
def wsX2_gatherPebbles : List Cond := .code yX2_gatherPebbles cX2_gatherPebbles 4 (some .boolean) :: ((wsX2_gatherPebbles_r1 ++ wsX2_gatherPebbles_r2) ++ wsX20)
def wsX2_rankOf_r1 : List Cond := [Cond.fieldLink RX2 9 "Formationist$PebbleGame" "pebbles" "[I", Cond.fieldLink RX2 15 "Formationist$PebbleGame" "arcs" "[I", Cond.methodLink RX2 21 yJ7_fill_53178, Cond.static yJ7_fill_53178, Cond.initialized RJ7, Cond.code yJ7_fill_53178 cJ7_fill_53178 4 none, Cond.instanceMethod yX1_joins, Cond.initialized RX1, Cond.selects RX1 yX1_joins yX1_joins, Cond.code yX1_joins cX1_joins 3 (some .boolean), Cond.fieldLink RX1 9 "Formationist$Net" "others" "[I", Cond.methodLink RX1 28 yX1_holds, Cond.static yX1_holds, Cond.code yX1_holds cX1_holds 2 (some .boolean), Cond.methodLink RX2 33 yX2_gatherPebbles, Cond.instanceMethod yX2_gatherPebbles, Cond.selects RX2 yX2_gatherPebbles yX2_gatherPebbles, Cond.initialized RX2, Cond.code yX2_gatherPebbles cX2_gatherPebbles 4 (some .boolean), Cond.methodLink RX2 40 yX2_fetchPebble, Cond.instanceMethod yX2_fetchPebble, Cond.selects RX2 yX2_fetchPebble yX2_fetchPebble, Cond.code yX2_fetchPebble cX2_fetchPebble 4 (some .boolean), Cond.methodLink RX2 43 yX2_findPebble]
def wsX2_rankOf_r2 : List Cond := [Cond.instanceMethod yX2_findPebble, Cond.selects RX2 yX2_findPebble yX2_findPebble, Cond.code yX2_findPebble cX2_findPebble 9 (some .int), Cond.fieldLink RX2 18 "Formationist$PebbleGame" "cameFrom" "[I", Cond.static yX1_with, Cond.code yX1_with cX1_with 2 (some .int), Cond.methodLink RX2 53 yX2_noteWay, Cond.instanceMethod yX2_noteWay, Cond.selects RX2 yX2_noteWay yX2_noteWay, Cond.code yX2_noteWay cX2_noteWay 4 none, Cond.methodLink RX2 57 yX2_holderAmong, Cond.instanceMethod yX2_holderAmong, Cond.selects RX2 yX2_holderAmong yX2_holderAmong, Cond.code yX2_holderAmong cX2_holderAmong 3 (some .int), Cond.methodLink RX2 46 yX2_turnArcs, Cond.instanceMethod yX2_turnArcs, Cond.selects RX2 yX2_turnArcs yX2_turnArcs, Cond.code yX2_turnArcs cX2_turnArcs 5 none, Cond.static yX1_without, Cond.code yX1_without cX1_without 2 (some .int)]
def wsX2_rankOf : List Cond := .code yX2_rankOf cX2_rankOf 5 (some .int) :: ((wsX2_rankOf_r1 ++ wsX2_rankOf_r2) ++ wsX20 ++ wsX10)
def wsX3_init : List Cond := .code yX3_init cX3_init 1 none :: ([.methodLink RX3 3 objectInit, .instanceMethod objectInit, .code objectInit ⟨#[0xb1]⟩ 1 none, .classLink RX3 9 "[[J", .arrayClass .long, .fieldLink RX3 11 "Formationist$TreeMatrix" "rows" "[[J"] ++ wsX30)
def wsJ6_numberOfTrailingZeros_0f7a4 : List Cond := .code yJ6_numberOfTrailingZeros_0f7a4 cJ6_numberOfTrailingZeros_0f7a4 2 (some .int) :: ([.constant RJ6 264 (65536)])
def wsX3_fillRow : List Cond := .code yX3_fillRow cX3_fillRow 6 none :: ([.constantLong RX3 47 (-1), .static yX1_holds, .initialized RX1, .code yX1_holds cX1_holds 2 (some .boolean), .instanceMethod yX1_joins, .selects RX1 yX1_joins yX1_joins, .code yX1_joins cX1_joins 3 (some .boolean), .fieldLink RX1 9 "Formationist$Net" "others" "[I", .methodLink RX1 28 yX1_holds, .instanceMethod yX1_degreeOf, .selects RX1 yX1_degreeOf yX1_degreeOf, .code yX1_degreeOf cX1_degreeOf 2 (some .int), .methodLink RX1 32 yJ6_bitCount_0f7a4, .static yJ6_bitCount_0f7a4, .initialized RJ6, .code yJ6_bitCount_0f7a4 cJ6_bitCount_0f7a4 1 (some .int), .constant RJ6 265 (1431655765), .constant RJ6 266 (858993459), .constant RJ6 267 (252645135)] ++ wsX10)
def wsX3_fill : List Cond := .code yX3_fill cX3_fill 5 (some .int) :: ([.fieldLink RX3 11 "Formationist$TreeMatrix" "rows" "[[J", .static yX1_holds, .initialized RX1, .code yX1_holds cX1_holds 2 (some .boolean), .methodLink RX3 40 yX3_fillRow, .static yX3_fillRow, .initialized RX3, .code yX3_fillRow cX3_fillRow 6 none, .constantLong RX3 47 (-1), .instanceMethod yX1_joins, .selects RX1 yX1_joins yX1_joins, .code yX1_joins cX1_joins 3 (some .boolean), .fieldLink RX1 9 "Formationist$Net" "others" "[I", .methodLink RX1 28 yX1_holds, .instanceMethod yX1_degreeOf, .selects RX1 yX1_degreeOf yX1_degreeOf, .code yX1_degreeOf cX1_degreeOf 2 (some .int), .methodLink RX1 32 yJ6_bitCount_0f7a4, .static yJ6_bitCount_0f7a4, .initialized RJ6, .code yJ6_bitCount_0f7a4 cJ6_bitCount_0f7a4 1 (some .int), .constant RJ6 265 (1431655765), .constant RJ6 266 (858993459), .constant RJ6 267 (252645135)] ++ wsX30 ++ wsX10)
def wsX3_determinant : List Cond := .code yX3_determinant cX3_determinant 11 (some .long) :: ([.fieldLink RX3 11 "Formationist$TreeMatrix" "rows" "[[J"] ++ wsX30)
def wsX3_treesOf_r1 : List Cond := [Cond.methodLink RX3 16 yJ6_numberOfTrailingZeros_0f7a4, Cond.static yJ6_numberOfTrailingZeros_0f7a4, Cond.initialized RJ6, Cond.code yJ6_numberOfTrailingZeros_0f7a4 cJ6_numberOfTrailingZeros_0f7a4 2 (some .int), Cond.constant RJ6 264 (65536), Cond.static yX1_without, Cond.initialized RX1, Cond.code yX1_without cX1_without 2 (some .int), Cond.methodLink RX3 28 yX3_fill, Cond.instanceMethod yX3_fill, Cond.selects RX3 yX3_fill yX3_fill, Cond.initialized RX3, Cond.code yX3_fill cX3_fill 5 (some .int), Cond.fieldLink RX3 11 "Formationist$TreeMatrix" "rows" "[[J", Cond.static yX1_holds, Cond.code yX1_holds cX1_holds 2 (some .boolean), Cond.methodLink RX3 40 yX3_fillRow, Cond.static yX3_fillRow, Cond.code yX3_fillRow cX3_fillRow 6 none, Cond.constantLong RX3 47 (-1), Cond.instanceMethod yX1_joins, Cond.selects RX1 yX1_joins yX1_joins, Cond.code yX1_joins cX1_joins 3 (some .boolean), Cond.fieldLink RX1 9 "Formationist$Net" "others" "[I"]
def wsX3_treesOf_r2 : List Cond := [Cond.methodLink RX1 28 yX1_holds, Cond.instanceMethod yX1_degreeOf, Cond.selects RX1 yX1_degreeOf yX1_degreeOf, Cond.code yX1_degreeOf cX1_degreeOf 2 (some .int), Cond.methodLink RX1 32 yJ6_bitCount_0f7a4, Cond.static yJ6_bitCount_0f7a4, Cond.code yJ6_bitCount_0f7a4 cJ6_bitCount_0f7a4 1 (some .int), Cond.constant RJ6 265 (1431655765), Cond.constant RJ6 266 (858993459), Cond.constant RJ6 267 (252645135), Cond.methodLink RX3 32 yX3_determinant, Cond.instanceMethod yX3_determinant, Cond.selects RX3 yX3_determinant yX3_determinant, Cond.code yX3_determinant cX3_determinant 11 (some .long)]
def wsX3_treesOf : List Cond := .code yX3_treesOf cX3_treesOf 4 (some .long) :: ((wsX3_treesOf_r1 ++ wsX3_treesOf_r2) ++ wsX30 ++ wsX10)
def wsX4_init_r1 : List Cond := [Cond.methodLink RX4 1 objectInit, Cond.instanceMethod objectInit, Cond.code objectInit ⟨#[0xb1]⟩ 1 none, Cond.arrayClass .int, Cond.fieldLink RX4 9 "Formationist" "xs" "[I", Cond.fieldLink RX4 13 "Formationist" "ys" "[I", Cond.arrayClass .boolean, Cond.fieldLink RX4 16 "Formationist" "ups" "[Z", Cond.fieldLink RX4 20 "Formationist" "priorities" "[I", Cond.fieldLink RX4 23 "Formationist" "estimates" "[I", Cond.fieldLink RX4 26 "Formationist" "sums" "[I", Cond.fieldLink RX4 29 "Formationist" "weights" "[I", Cond.fieldLink RX4 32 "Formationist" "lastReceivers" "[I", Cond.classLink RX4 35 "[[I", Cond.fieldLink RX4 37 "Formationist" "wantedSquares" "[[I", Cond.classLink RX4 40 RX1, Cond.instantiable RX1 1, Cond.initialized RX1, Cond.fieldLink RX4 43 "Formationist" "blocked" "LFormationist$Net;", Cond.fieldLink RX4 47 "Formationist" "count" "I", Cond.fieldLink RX4 51 "Formationist" "range" "I", Cond.fieldLink RX4 54 "Formationist" "net" "LFormationist$Net;", Cond.fieldLink RX4 57 "Formationist" "changes" "[I", Cond.fieldLink RX4 60 "Formationist" "moreChanges" "[I"]
def wsX4_init_r2 : List Cond := [Cond.classLink RX4 63 RX2, Cond.instantiable RX2 3, Cond.initialized RX2, Cond.fieldLink RX4 66 "Formationist" "pebbleGame" "LFormationist$PebbleGame;", Cond.classLink RX4 70 RX0, Cond.instantiable RX0 1, Cond.initialized RX0, Cond.fieldLink RX4 73 "Formationist" "linkCounts" "LFormationist$LinkCounts;", Cond.classLink RX4 77 RX3, Cond.instantiable RX3 1, Cond.initialized RX3, Cond.fieldLink RX4 80 "Formationist" "treeMatrix" "LFormationist$TreeMatrix;", Cond.instanceMethod yX1_init, Cond.code yX1_init cX1_init 1 none, Cond.methodLink RX1 3 objectInit, Cond.fieldLink RX1 9 "Formationist$Net" "others" "[I", Cond.instanceMethod yX2_init, Cond.code yX2_init cX2_init 1 none, Cond.methodLink RX2 3 objectInit, Cond.fieldLink RX2 9 "Formationist$PebbleGame" "pebbles" "[I", Cond.fieldLink RX2 15 "Formationist$PebbleGame" "arcs" "[I", Cond.fieldLink RX2 18 "Formationist$PebbleGame" "cameFrom" "[I", Cond.instanceMethod yX0_init, Cond.code yX0_init cX0_init 1 none]
def wsX4_init_r3 : List Cond := [Cond.methodLink RX0 3 objectInit, Cond.fieldLink RX0 11 "Formationist$LinkCounts" "linksWithin" "[I", Cond.instanceMethod yX3_init, Cond.code yX3_init cX3_init 1 none, Cond.methodLink RX3 3 objectInit, Cond.classLink RX3 9 "[[J", Cond.arrayClass .long, Cond.fieldLink RX3 11 "Formationist$TreeMatrix" "rows" "[[J", Cond.methodLink RX4 84 yJ7_fill_53178, Cond.static yJ7_fill_53178, Cond.initialized RJ7, Cond.code yJ7_fill_53178 cJ7_fill_53178 4 none]
def wsX4_init : List Cond := .code yX4_init cX4_init 2 none :: ((wsX4_init_r1 ++ (wsX4_init_r2 ++ wsX4_init_r3)) ++ wsX40 ++ wsX10 ++ wsX20 ++ wsX00 ++ wsX30)
def wsX4_requireWithin : List Cond := .code yX4_requireWithin cX4_requireWithin 3 none :: ([.classLink RX4 206 "java/lang/IllegalArgumentException", .initialized "java/lang/IllegalArgumentException"] ++ (vx_atS RX4 210 "java/lang/IllegalArgumentException" ["java/lang/RuntimeException", "java/lang/Exception"]).filter goodWord)
def wsX4_requirePlace : List Cond := .code yX4_requirePlace cX4_requirePlace 2 none :: ([.methodLink RX4 105 yX4_requireWithin, .static yX4_requireWithin, .initialized RX4, .code yX4_requireWithin cX4_requireWithin 3 none, .classLink RX4 206 "java/lang/IllegalArgumentException", .initialized "java/lang/IllegalArgumentException"] ++ (vx_atS RX4 210 "java/lang/IllegalArgumentException" ["java/lang/RuntimeException", "java/lang/Exception"]).filter goodWord)
def wsX4_addMember : List Cond := .code yX4_addMember cX4_addMember 4 (some .int) :: ([.classLink RX4 94 "java/lang/IllegalStateException", .initialized "java/lang/IllegalStateException", .fieldLink RX4 47 "Formationist" "count" "I", .fieldLink RX4 9 "Formationist" "xs" "[I", .fieldLink RX4 13 "Formationist" "ys" "[I", .fieldLink RX4 16 "Formationist" "ups" "[Z", .fieldLink RX4 29 "Formationist" "weights" "[I", .fieldLink RX4 32 "Formationist" "lastReceivers" "[I", .methodLink RX4 90 yX4_requirePlace, .static yX4_requirePlace, .initialized RX4, .code yX4_requirePlace cX4_requirePlace 2 none, .methodLink RX4 105 yX4_requireWithin, .static yX4_requireWithin, .code yX4_requireWithin cX4_requireWithin 3 none, .classLink RX4 206 "java/lang/IllegalArgumentException", .initialized "java/lang/IllegalArgumentException"] ++ wsX40 ++ (vx_atS RX4 98 "java/lang/IllegalStateException" ["java/lang/RuntimeException", "java/lang/Exception"]).filter goodWord ++ (vx_atS RX4 210 "java/lang/IllegalArgumentException" ["java/lang/RuntimeException", "java/lang/Exception"]).filter goodWord)
def wsX4_requireMember : List Cond := .code yX4_requireMember cX4_requireMember 2 none :: ([.classLink RX4 201 "java/lang/IndexOutOfBoundsException", .initialized "java/lang/IndexOutOfBoundsException", .fieldLink RX4 47 "Formationist" "count" "I"] ++ wsX40 ++ (vx_atS RX4 205 "java/lang/IndexOutOfBoundsException" ["java/lang/RuntimeException", "java/lang/Exception"]).filter goodWord)
def wsX4_move : List Cond := .code yX4_move cX4_move 4 none :: ([.fieldLink RX4 9 "Formationist" "xs" "[I", .fieldLink RX4 13 "Formationist" "ys" "[I", .methodLink RX4 101 yX4_requireMember, .instanceMethod yX4_requireMember, .selects RX4 yX4_requireMember yX4_requireMember, .initialized RX4, .code yX4_requireMember cX4_requireMember 2 none, .classLink RX4 201 "java/lang/IndexOutOfBoundsException", .initialized "java/lang/IndexOutOfBoundsException", .fieldLink RX4 47 "Formationist" "count" "I", .methodLink RX4 90 yX4_requirePlace, .static yX4_requirePlace, .code yX4_requirePlace cX4_requirePlace 2 none, .methodLink RX4 105 yX4_requireWithin, .static yX4_requireWithin, .code yX4_requireWithin cX4_requireWithin 3 none, .classLink RX4 206 "java/lang/IllegalArgumentException", .initialized "java/lang/IllegalArgumentException"] ++ wsX40 ++ (vx_atS RX4 205 "java/lang/IndexOutOfBoundsException" ["java/lang/RuntimeException", "java/lang/Exception"]).filter goodWord ++ (vx_atS RX4 210 "java/lang/IllegalArgumentException" ["java/lang/RuntimeException", "java/lang/Exception"]).filter goodWord)
def wsX4_toggle : List Cond := .code yX4_toggle cX4_toggle 2 (some .boolean) :: ([.fieldLink RX4 16 "Formationist" "ups" "[Z", .methodLink RX4 101 yX4_requireMember, .instanceMethod yX4_requireMember, .selects RX4 yX4_requireMember yX4_requireMember, .initialized RX4, .code yX4_requireMember cX4_requireMember 2 none, .classLink RX4 201 "java/lang/IndexOutOfBoundsException", .initialized "java/lang/IndexOutOfBoundsException", .fieldLink RX4 47 "Formationist" "count" "I"] ++ wsX40 ++ (vx_atS RX4 205 "java/lang/IndexOutOfBoundsException" ["java/lang/RuntimeException", "java/lang/Exception"]).filter goodWord)
def wsX4_setPriority : List Cond := .code yX4_setPriority cX4_setPriority 4 (some .int) :: ([.fieldLink RX4 20 "Formationist" "priorities" "[I", .methodLink RX4 101 yX4_requireMember, .instanceMethod yX4_requireMember, .selects RX4 yX4_requireMember yX4_requireMember, .initialized RX4, .code yX4_requireMember cX4_requireMember 2 none, .classLink RX4 201 "java/lang/IndexOutOfBoundsException", .initialized "java/lang/IndexOutOfBoundsException", .fieldLink RX4 47 "Formationist" "count" "I", .methodLink RX4 105 yX4_requireWithin, .static yX4_requireWithin, .code yX4_requireWithin cX4_requireWithin 3 none, .classLink RX4 206 "java/lang/IllegalArgumentException", .initialized "java/lang/IllegalArgumentException"] ++ wsX40 ++ (vx_atS RX4 205 "java/lang/IndexOutOfBoundsException" ["java/lang/RuntimeException", "java/lang/Exception"]).filter goodWord ++ (vx_atS RX4 210 "java/lang/IllegalArgumentException" ["java/lang/RuntimeException", "java/lang/Exception"]).filter goodWord)
def wsX4_setRange : List Cond := .code yX4_setRange cX4_setRange 3 (some .int) :: ([.fieldLink RX4 51 "Formationist" "range" "I", .methodLink RX4 105 yX4_requireWithin, .static yX4_requireWithin, .initialized RX4, .code yX4_requireWithin cX4_requireWithin 3 none, .classLink RX4 206 "java/lang/IllegalArgumentException", .initialized "java/lang/IllegalArgumentException"] ++ wsX40 ++ (vx_atS RX4 210 "java/lang/IllegalArgumentException" ["java/lang/RuntimeException", "java/lang/Exception"]).filter goodWord)
def wsX4_requireUnlike : List Cond := .code yX4_requireUnlike cX4_requireUnlike 3 none :: ([.classLink RX4 206 "java/lang/IllegalArgumentException", .initialized "java/lang/IllegalArgumentException", .methodLink RX4 101 yX4_requireMember, .instanceMethod yX4_requireMember, .selects RX4 yX4_requireMember yX4_requireMember, .initialized RX4, .code yX4_requireMember cX4_requireMember 2 none, .classLink RX4 201 "java/lang/IndexOutOfBoundsException", .initialized "java/lang/IndexOutOfBoundsException", .fieldLink RX4 47 "Formationist" "count" "I"] ++ wsX40 ++ (vx_atS RX4 210 "java/lang/IllegalArgumentException" ["java/lang/RuntimeException", "java/lang/Exception"]).filter goodWord ++ (vx_atS RX4 205 "java/lang/IndexOutOfBoundsException" ["java/lang/RuntimeException", "java/lang/Exception"]).filter goodWord)
def wsX4_block_r1 : List Cond := [Cond.fieldLink RX4 43 "Formationist" "blocked" "LFormationist$Net;", Cond.methodLink RX4 109 yX4_requireUnlike, Cond.instanceMethod yX4_requireUnlike, Cond.selects RX4 yX4_requireUnlike yX4_requireUnlike, Cond.initialized RX4, Cond.code yX4_requireUnlike cX4_requireUnlike 3 none, Cond.classLink RX4 206 "java/lang/IllegalArgumentException", Cond.initialized "java/lang/IllegalArgumentException", Cond.methodLink RX4 101 yX4_requireMember, Cond.instanceMethod yX4_requireMember, Cond.selects RX4 yX4_requireMember yX4_requireMember, Cond.code yX4_requireMember cX4_requireMember 2 none, Cond.classLink RX4 201 "java/lang/IndexOutOfBoundsException", Cond.initialized "java/lang/IndexOutOfBoundsException", Cond.fieldLink RX4 47 "Formationist" "count" "I", Cond.instanceMethod yX1_joins, Cond.initialized RX1, Cond.selects RX1 yX1_joins yX1_joins, Cond.code yX1_joins cX1_joins 3 (some .boolean), Cond.fieldLink RX1 9 "Formationist$Net" "others" "[I", Cond.methodLink RX1 28 yX1_holds, Cond.static yX1_holds, Cond.code yX1_holds cX1_holds 2 (some .boolean), Cond.instanceMethod yX1_cut]
def wsX4_block_r2 : List Cond := [Cond.selects RX1 yX1_cut yX1_cut, Cond.code yX1_cut cX1_cut 3 none, Cond.methodLink RX1 25 yX1_without, Cond.static yX1_without, Cond.code yX1_without cX1_without 2 (some .int), Cond.instanceMethod yX1_join, Cond.selects RX1 yX1_join yX1_join, Cond.code yX1_join cX1_join 3 none, Cond.methodLink RX1 21 yX1_with, Cond.static yX1_with, Cond.code yX1_with cX1_with 2 (some .int)]
def wsX4_block : List Cond := .code yX4_block cX4_block 3 (some .boolean) :: ((wsX4_block_r1 ++ wsX4_block_r2) ++ wsX40 ++ wsX10 ++ (vx_atS RX4 210 "java/lang/IllegalArgumentException" ["java/lang/RuntimeException", "java/lang/Exception"]).filter goodWord ++ (vx_atS RX4 205 "java/lang/IndexOutOfBoundsException" ["java/lang/RuntimeException", "java/lang/Exception"]).filter goodWord)
def wsX4_members : List Cond := .code yX4_members cX4_members 1 (some .int) :: ([.fieldLink RX4 47 "Formationist" "count" "I"] ++ wsX40)
def wsX4_xOf : List Cond := .code yX4_xOf cX4_xOf 2 (some .int) :: ([.fieldLink RX4 9 "Formationist" "xs" "[I", .methodLink RX4 101 yX4_requireMember, .instanceMethod yX4_requireMember, .selects RX4 yX4_requireMember yX4_requireMember, .initialized RX4, .code yX4_requireMember cX4_requireMember 2 none, .classLink RX4 201 "java/lang/IndexOutOfBoundsException", .initialized "java/lang/IndexOutOfBoundsException", .fieldLink RX4 47 "Formationist" "count" "I"] ++ wsX40 ++ (vx_atS RX4 205 "java/lang/IndexOutOfBoundsException" ["java/lang/RuntimeException", "java/lang/Exception"]).filter goodWord)
def wsX4_yOf : List Cond := .code yX4_yOf cX4_yOf 2 (some .int) :: ([.fieldLink RX4 13 "Formationist" "ys" "[I", .methodLink RX4 101 yX4_requireMember, .instanceMethod yX4_requireMember, .selects RX4 yX4_requireMember yX4_requireMember, .initialized RX4, .code yX4_requireMember cX4_requireMember 2 none, .classLink RX4 201 "java/lang/IndexOutOfBoundsException", .initialized "java/lang/IndexOutOfBoundsException", .fieldLink RX4 47 "Formationist" "count" "I"] ++ wsX40 ++ (vx_atS RX4 205 "java/lang/IndexOutOfBoundsException" ["java/lang/RuntimeException", "java/lang/Exception"]).filter goodWord)
def wsX4_squareBetween : List Cond := .code yX4_squareBetween cX4_squareBetween 5 (some .int) :: ([.fieldLink RX4 9 "Formationist" "xs" "[I", .fieldLink RX4 13 "Formationist" "ys" "[I"] ++ wsX40)
def wsX4_hears : List Cond := .code yX4_hears cX4_hears 3 (some .boolean) :: ([.fieldLink RX4 16 "Formationist" "ups" "[Z", .fieldLink RX4 43 "Formationist" "blocked" "LFormationist$Net;", .fieldLink RX4 51 "Formationist" "range" "I", .instanceMethod yX1_joins, .initialized RX1, .selects RX1 yX1_joins yX1_joins, .code yX1_joins cX1_joins 3 (some .boolean), .fieldLink RX1 9 "Formationist$Net" "others" "[I", .methodLink RX1 28 yX1_holds, .static yX1_holds, .code yX1_holds cX1_holds 2 (some .boolean), .methodLink RX4 215 yX4_squareBetween, .instanceMethod yX4_squareBetween, .selects RX4 yX4_squareBetween yX4_squareBetween, .initialized RX4, .code yX4_squareBetween cX4_squareBetween 5 (some .int), .fieldLink RX4 9 "Formationist" "xs" "[I", .fieldLink RX4 13 "Formationist" "ys" "[I"] ++ wsX40 ++ wsX10)
def wsX4_areLinked_r1 : List Cond := [Cond.methodLink RX4 101 yX4_requireMember, Cond.instanceMethod yX4_requireMember, Cond.selects RX4 yX4_requireMember yX4_requireMember, Cond.initialized RX4, Cond.code yX4_requireMember cX4_requireMember 2 none, Cond.classLink RX4 201 "java/lang/IndexOutOfBoundsException", Cond.initialized "java/lang/IndexOutOfBoundsException", Cond.fieldLink RX4 47 "Formationist" "count" "I", Cond.methodLink RX4 122 yX4_hears, Cond.instanceMethod yX4_hears, Cond.selects RX4 yX4_hears yX4_hears, Cond.code yX4_hears cX4_hears 3 (some .boolean), Cond.fieldLink RX4 16 "Formationist" "ups" "[Z", Cond.fieldLink RX4 43 "Formationist" "blocked" "LFormationist$Net;", Cond.fieldLink RX4 51 "Formationist" "range" "I", Cond.instanceMethod yX1_joins, Cond.initialized RX1, Cond.selects RX1 yX1_joins yX1_joins, Cond.code yX1_joins cX1_joins 3 (some .boolean), Cond.fieldLink RX1 9 "Formationist$Net" "others" "[I", Cond.methodLink RX1 28 yX1_holds, Cond.static yX1_holds, Cond.code yX1_holds cX1_holds 2 (some .boolean), Cond.methodLink RX4 215 yX4_squareBetween]
def wsX4_areLinked_r2 : List Cond := [Cond.instanceMethod yX4_squareBetween, Cond.selects RX4 yX4_squareBetween yX4_squareBetween, Cond.code yX4_squareBetween cX4_squareBetween 5 (some .int), Cond.fieldLink RX4 9 "Formationist" "xs" "[I", Cond.fieldLink RX4 13 "Formationist" "ys" "[I"]
def wsX4_areLinked : List Cond := .code yX4_areLinked cX4_areLinked 3 (some .boolean) :: ((wsX4_areLinked_r1 ++ wsX4_areLinked_r2) ++ wsX40 ++ wsX10 ++ (vx_atS RX4 205 "java/lang/IndexOutOfBoundsException" ["java/lang/RuntimeException", "java/lang/Exception"]).filter goodWord)
def wsX4_drawNet_r1 : List Cond := [Cond.fieldLink RX4 54 "Formationist" "net" "LFormationist$Net;", Cond.fieldLink RX4 47 "Formationist" "count" "I", Cond.instanceMethod yX1_clear, Cond.initialized RX1, Cond.selects RX1 yX1_clear yX1_clear, Cond.code yX1_clear cX1_clear 1 none, Cond.fieldLink RX1 9 "Formationist$Net" "others" "[I", Cond.methodLink RX1 15 yJ7_fill_53178, Cond.static yJ7_fill_53178, Cond.initialized RJ7, Cond.code yJ7_fill_53178 cJ7_fill_53178 4 none, Cond.methodLink RX4 122 yX4_hears, Cond.instanceMethod yX4_hears, Cond.selects RX4 yX4_hears yX4_hears, Cond.initialized RX4, Cond.code yX4_hears cX4_hears 3 (some .boolean), Cond.fieldLink RX4 16 "Formationist" "ups" "[Z", Cond.fieldLink RX4 43 "Formationist" "blocked" "LFormationist$Net;", Cond.fieldLink RX4 51 "Formationist" "range" "I", Cond.instanceMethod yX1_joins, Cond.selects RX1 yX1_joins yX1_joins, Cond.code yX1_joins cX1_joins 3 (some .boolean), Cond.methodLink RX1 28 yX1_holds, Cond.static yX1_holds]
def wsX4_drawNet_r2 : List Cond := [Cond.code yX1_holds cX1_holds 2 (some .boolean), Cond.methodLink RX4 215 yX4_squareBetween, Cond.instanceMethod yX4_squareBetween, Cond.selects RX4 yX4_squareBetween yX4_squareBetween, Cond.code yX4_squareBetween cX4_squareBetween 5 (some .int), Cond.fieldLink RX4 9 "Formationist" "xs" "[I", Cond.fieldLink RX4 13 "Formationist" "ys" "[I", Cond.instanceMethod yX1_join, Cond.selects RX1 yX1_join yX1_join, Cond.code yX1_join cX1_join 3 none, Cond.methodLink RX1 21 yX1_with, Cond.static yX1_with, Cond.code yX1_with cX1_with 2 (some .int)]
def wsX4_drawNet : List Cond := .code yX4_drawNet cX4_drawNet 3 none :: ((wsX4_drawNet_r1 ++ wsX4_drawNet_r2) ++ wsX40 ++ wsX10)
def wsX4_links_r1 : List Cond := [Cond.fieldLink RX4 54 "Formationist" "net" "LFormationist$Net;", Cond.methodLink RX4 125 yX4_drawNet, Cond.instanceMethod yX4_drawNet, Cond.selects RX4 yX4_drawNet yX4_drawNet, Cond.initialized RX4, Cond.code yX4_drawNet cX4_drawNet 3 none, Cond.fieldLink RX4 47 "Formationist" "count" "I", Cond.instanceMethod yX1_clear, Cond.initialized RX1, Cond.selects RX1 yX1_clear yX1_clear, Cond.code yX1_clear cX1_clear 1 none, Cond.fieldLink RX1 9 "Formationist$Net" "others" "[I", Cond.methodLink RX1 15 yJ7_fill_53178, Cond.static yJ7_fill_53178, Cond.initialized RJ7, Cond.code yJ7_fill_53178 cJ7_fill_53178 4 none, Cond.methodLink RX4 122 yX4_hears, Cond.instanceMethod yX4_hears, Cond.selects RX4 yX4_hears yX4_hears, Cond.code yX4_hears cX4_hears 3 (some .boolean), Cond.fieldLink RX4 16 "Formationist" "ups" "[Z", Cond.fieldLink RX4 43 "Formationist" "blocked" "LFormationist$Net;", Cond.fieldLink RX4 51 "Formationist" "range" "I", Cond.instanceMethod yX1_joins]
def wsX4_links_r2 : List Cond := [Cond.selects RX1 yX1_joins yX1_joins, Cond.code yX1_joins cX1_joins 3 (some .boolean), Cond.methodLink RX1 28 yX1_holds, Cond.static yX1_holds, Cond.code yX1_holds cX1_holds 2 (some .boolean), Cond.methodLink RX4 215 yX4_squareBetween, Cond.instanceMethod yX4_squareBetween, Cond.selects RX4 yX4_squareBetween yX4_squareBetween, Cond.code yX4_squareBetween cX4_squareBetween 5 (some .int), Cond.fieldLink RX4 9 "Formationist" "xs" "[I", Cond.fieldLink RX4 13 "Formationist" "ys" "[I", Cond.instanceMethod yX1_join, Cond.selects RX1 yX1_join yX1_join, Cond.code yX1_join cX1_join 3 none, Cond.methodLink RX1 21 yX1_with, Cond.static yX1_with, Cond.code yX1_with cX1_with 2 (some .int), Cond.instanceMethod yX1_pairCount, Cond.selects RX1 yX1_pairCount yX1_pairCount, Cond.code yX1_pairCount cX1_pairCount 3 (some .int), Cond.methodLink RX1 38 yX1_degreeOf, Cond.instanceMethod yX1_degreeOf, Cond.selects RX1 yX1_degreeOf yX1_degreeOf, Cond.code yX1_degreeOf cX1_degreeOf 2 (some .int)]
def wsX4_links_r3 : List Cond := [Cond.methodLink RX1 32 yJ6_bitCount_0f7a4, Cond.static yJ6_bitCount_0f7a4, Cond.initialized RJ6, Cond.code yJ6_bitCount_0f7a4 cJ6_bitCount_0f7a4 1 (some .int), Cond.constant RJ6 265 (1431655765), Cond.constant RJ6 266 (858993459), Cond.constant RJ6 267 (252645135)]
def wsX4_links : List Cond := .code yX4_links cX4_links 1 (some .int) :: ((wsX4_links_r1 ++ (wsX4_links_r2 ++ wsX4_links_r3)) ++ wsX40 ++ wsX10)
def wsX4_degree_r1 : List Cond := [Cond.fieldLink RX4 54 "Formationist" "net" "LFormationist$Net;", Cond.methodLink RX4 101 yX4_requireMember, Cond.instanceMethod yX4_requireMember, Cond.selects RX4 yX4_requireMember yX4_requireMember, Cond.initialized RX4, Cond.code yX4_requireMember cX4_requireMember 2 none, Cond.classLink RX4 201 "java/lang/IndexOutOfBoundsException", Cond.initialized "java/lang/IndexOutOfBoundsException", Cond.fieldLink RX4 47 "Formationist" "count" "I", Cond.methodLink RX4 125 yX4_drawNet, Cond.instanceMethod yX4_drawNet, Cond.selects RX4 yX4_drawNet yX4_drawNet, Cond.code yX4_drawNet cX4_drawNet 3 none, Cond.instanceMethod yX1_clear, Cond.initialized RX1, Cond.selects RX1 yX1_clear yX1_clear, Cond.code yX1_clear cX1_clear 1 none, Cond.fieldLink RX1 9 "Formationist$Net" "others" "[I", Cond.methodLink RX1 15 yJ7_fill_53178, Cond.static yJ7_fill_53178, Cond.initialized RJ7, Cond.code yJ7_fill_53178 cJ7_fill_53178 4 none, Cond.methodLink RX4 122 yX4_hears, Cond.instanceMethod yX4_hears]
def wsX4_degree_r2 : List Cond := [Cond.selects RX4 yX4_hears yX4_hears, Cond.code yX4_hears cX4_hears 3 (some .boolean), Cond.fieldLink RX4 16 "Formationist" "ups" "[Z", Cond.fieldLink RX4 43 "Formationist" "blocked" "LFormationist$Net;", Cond.fieldLink RX4 51 "Formationist" "range" "I", Cond.instanceMethod yX1_joins, Cond.selects RX1 yX1_joins yX1_joins, Cond.code yX1_joins cX1_joins 3 (some .boolean), Cond.methodLink RX1 28 yX1_holds, Cond.static yX1_holds, Cond.code yX1_holds cX1_holds 2 (some .boolean), Cond.methodLink RX4 215 yX4_squareBetween, Cond.instanceMethod yX4_squareBetween, Cond.selects RX4 yX4_squareBetween yX4_squareBetween, Cond.code yX4_squareBetween cX4_squareBetween 5 (some .int), Cond.fieldLink RX4 9 "Formationist" "xs" "[I", Cond.fieldLink RX4 13 "Formationist" "ys" "[I", Cond.instanceMethod yX1_join, Cond.selects RX1 yX1_join yX1_join, Cond.code yX1_join cX1_join 3 none, Cond.methodLink RX1 21 yX1_with, Cond.static yX1_with, Cond.code yX1_with cX1_with 2 (some .int), Cond.instanceMethod yX1_degreeOf]
def wsX4_degree_r3 : List Cond := [Cond.selects RX1 yX1_degreeOf yX1_degreeOf, Cond.code yX1_degreeOf cX1_degreeOf 2 (some .int), Cond.methodLink RX1 32 yJ6_bitCount_0f7a4, Cond.static yJ6_bitCount_0f7a4, Cond.initialized RJ6, Cond.code yJ6_bitCount_0f7a4 cJ6_bitCount_0f7a4 1 (some .int), Cond.constant RJ6 265 (1431655765), Cond.constant RJ6 266 (858993459), Cond.constant RJ6 267 (252645135)]
def wsX4_degree : List Cond := .code yX4_degree cX4_degree 2 (some .int) :: ((wsX4_degree_r1 ++ (wsX4_degree_r2 ++ wsX4_degree_r3)) ++ wsX40 ++ wsX10 ++ (vx_atS RX4 205 "java/lang/IndexOutOfBoundsException" ["java/lang/RuntimeException", "java/lang/Exception"]).filter goodWord)
def wsX4_countGroups : List Cond := .code yX4_countGroups cX4_countGroups 4 (some .int) :: ([.fieldLink RX4 47 "Formationist" "count" "I", .fieldLink RX4 16 "Formationist" "ups" "[Z", .fieldLink RX4 54 "Formationist" "net" "LFormationist$Net;", .static yX1_holds, .initialized RX1, .code yX1_holds cX1_holds 2 (some .boolean), .instanceMethod yX1_groupOf, .selects RX1 yX1_groupOf yX1_groupOf, .code yX1_groupOf cX1_groupOf 6 (some .int), .fieldLink RX1 9 "Formationist$Net" "others" "[I", .methodLink RX1 21 yX1_with, .static yX1_with, .code yX1_with cX1_with 2 (some .int), .methodLink RX1 28 yX1_holds] ++ wsX40 ++ wsX10)
def wsX4_groups_r1 : List Cond := [Cond.methodLink RX4 125 yX4_drawNet, Cond.instanceMethod yX4_drawNet, Cond.selects RX4 yX4_drawNet yX4_drawNet, Cond.initialized RX4, Cond.code yX4_drawNet cX4_drawNet 3 none, Cond.fieldLink RX4 54 "Formationist" "net" "LFormationist$Net;", Cond.fieldLink RX4 47 "Formationist" "count" "I", Cond.instanceMethod yX1_clear, Cond.initialized RX1, Cond.selects RX1 yX1_clear yX1_clear, Cond.code yX1_clear cX1_clear 1 none, Cond.fieldLink RX1 9 "Formationist$Net" "others" "[I", Cond.methodLink RX1 15 yJ7_fill_53178, Cond.static yJ7_fill_53178, Cond.initialized RJ7, Cond.code yJ7_fill_53178 cJ7_fill_53178 4 none, Cond.methodLink RX4 122 yX4_hears, Cond.instanceMethod yX4_hears, Cond.selects RX4 yX4_hears yX4_hears, Cond.code yX4_hears cX4_hears 3 (some .boolean), Cond.fieldLink RX4 16 "Formationist" "ups" "[Z", Cond.fieldLink RX4 43 "Formationist" "blocked" "LFormationist$Net;", Cond.fieldLink RX4 51 "Formationist" "range" "I", Cond.instanceMethod yX1_joins]
def wsX4_groups_r2 : List Cond := [Cond.selects RX1 yX1_joins yX1_joins, Cond.code yX1_joins cX1_joins 3 (some .boolean), Cond.methodLink RX1 28 yX1_holds, Cond.static yX1_holds, Cond.code yX1_holds cX1_holds 2 (some .boolean), Cond.methodLink RX4 215 yX4_squareBetween, Cond.instanceMethod yX4_squareBetween, Cond.selects RX4 yX4_squareBetween yX4_squareBetween, Cond.code yX4_squareBetween cX4_squareBetween 5 (some .int), Cond.fieldLink RX4 9 "Formationist" "xs" "[I", Cond.fieldLink RX4 13 "Formationist" "ys" "[I", Cond.instanceMethod yX1_join, Cond.selects RX1 yX1_join yX1_join, Cond.code yX1_join cX1_join 3 none, Cond.methodLink RX1 21 yX1_with, Cond.static yX1_with, Cond.code yX1_with cX1_with 2 (some .int), Cond.methodLink RX4 136 yX4_countGroups, Cond.instanceMethod yX4_countGroups, Cond.selects RX4 yX4_countGroups yX4_countGroups, Cond.code yX4_countGroups cX4_countGroups 4 (some .int), Cond.instanceMethod yX1_groupOf, Cond.selects RX1 yX1_groupOf yX1_groupOf, Cond.code yX1_groupOf cX1_groupOf 6 (some .int)]
def wsX4_groups : List Cond := .code yX4_groups cX4_groups 1 (some .int) :: ((wsX4_groups_r1 ++ wsX4_groups_r2) ++ wsX40 ++ wsX10)
def wsX4_outranks : List Cond := .code yX4_outranks cX4_outranks 3 (some .boolean) :: ([.fieldLink RX4 20 "Formationist" "priorities" "[I"] ++ wsX40)
def wsX4_leader_r1 : List Cond := [Cond.fieldLink RX4 16 "Formationist" "ups" "[Z", Cond.fieldLink RX4 54 "Formationist" "net" "LFormationist$Net;", Cond.fieldLink RX4 47 "Formationist" "count" "I", Cond.methodLink RX4 101 yX4_requireMember, Cond.instanceMethod yX4_requireMember, Cond.selects RX4 yX4_requireMember yX4_requireMember, Cond.initialized RX4, Cond.code yX4_requireMember cX4_requireMember 2 none, Cond.classLink RX4 201 "java/lang/IndexOutOfBoundsException", Cond.initialized "java/lang/IndexOutOfBoundsException", Cond.methodLink RX4 125 yX4_drawNet, Cond.instanceMethod yX4_drawNet, Cond.selects RX4 yX4_drawNet yX4_drawNet, Cond.code yX4_drawNet cX4_drawNet 3 none, Cond.instanceMethod yX1_clear, Cond.initialized RX1, Cond.selects RX1 yX1_clear yX1_clear, Cond.code yX1_clear cX1_clear 1 none, Cond.fieldLink RX1 9 "Formationist$Net" "others" "[I", Cond.methodLink RX1 15 yJ7_fill_53178, Cond.static yJ7_fill_53178, Cond.initialized RJ7, Cond.code yJ7_fill_53178 cJ7_fill_53178 4 none, Cond.methodLink RX4 122 yX4_hears]
def wsX4_leader_r2 : List Cond := [Cond.instanceMethod yX4_hears, Cond.selects RX4 yX4_hears yX4_hears, Cond.code yX4_hears cX4_hears 3 (some .boolean), Cond.fieldLink RX4 43 "Formationist" "blocked" "LFormationist$Net;", Cond.fieldLink RX4 51 "Formationist" "range" "I", Cond.instanceMethod yX1_joins, Cond.selects RX1 yX1_joins yX1_joins, Cond.code yX1_joins cX1_joins 3 (some .boolean), Cond.methodLink RX1 28 yX1_holds, Cond.static yX1_holds, Cond.code yX1_holds cX1_holds 2 (some .boolean), Cond.methodLink RX4 215 yX4_squareBetween, Cond.instanceMethod yX4_squareBetween, Cond.selects RX4 yX4_squareBetween yX4_squareBetween, Cond.code yX4_squareBetween cX4_squareBetween 5 (some .int), Cond.fieldLink RX4 9 "Formationist" "xs" "[I", Cond.fieldLink RX4 13 "Formationist" "ys" "[I", Cond.instanceMethod yX1_join, Cond.selects RX1 yX1_join yX1_join, Cond.code yX1_join cX1_join 3 none, Cond.methodLink RX1 21 yX1_with, Cond.static yX1_with, Cond.code yX1_with cX1_with 2 (some .int), Cond.instanceMethod yX1_groupOf]
def wsX4_leader_r3 : List Cond := [Cond.selects RX1 yX1_groupOf yX1_groupOf, Cond.code yX1_groupOf cX1_groupOf 6 (some .int), Cond.methodLink RX4 145 yX4_outranks, Cond.instanceMethod yX4_outranks, Cond.selects RX4 yX4_outranks yX4_outranks, Cond.code yX4_outranks cX4_outranks 3 (some .boolean), Cond.fieldLink RX4 20 "Formationist" "priorities" "[I"]
def wsX4_leader : List Cond := .code yX4_leader cX4_leader 5 (some .int) :: ((wsX4_leader_r1 ++ (wsX4_leader_r2 ++ wsX4_leader_r3)) ++ wsX40 ++ wsX10 ++ (vx_atS RX4 205 "java/lang/IndexOutOfBoundsException" ["java/lang/RuntimeException", "java/lang/Exception"]).filter goodWord)
def wsX4_upSet : List Cond := .code yX4_upSet cX4_upSet 3 (some .int) :: ([.fieldLink RX4 47 "Formationist" "count" "I", .fieldLink RX4 16 "Formationist" "ups" "[Z", .static yX1_with, .initialized RX1, .code yX1_with cX1_with 2 (some .int)] ++ wsX40)
def wsX4_trees_r1 : List Cond := [Cond.fieldLink RX4 80 "Formationist" "treeMatrix" "LFormationist$TreeMatrix;", Cond.fieldLink RX4 54 "Formationist" "net" "LFormationist$Net;", Cond.methodLink RX4 125 yX4_drawNet, Cond.instanceMethod yX4_drawNet, Cond.selects RX4 yX4_drawNet yX4_drawNet, Cond.initialized RX4, Cond.code yX4_drawNet cX4_drawNet 3 none, Cond.fieldLink RX4 47 "Formationist" "count" "I", Cond.instanceMethod yX1_clear, Cond.initialized RX1, Cond.selects RX1 yX1_clear yX1_clear, Cond.code yX1_clear cX1_clear 1 none, Cond.fieldLink RX1 9 "Formationist$Net" "others" "[I", Cond.methodLink RX1 15 yJ7_fill_53178, Cond.static yJ7_fill_53178, Cond.initialized RJ7, Cond.code yJ7_fill_53178 cJ7_fill_53178 4 none, Cond.methodLink RX4 122 yX4_hears, Cond.instanceMethod yX4_hears, Cond.selects RX4 yX4_hears yX4_hears, Cond.code yX4_hears cX4_hears 3 (some .boolean), Cond.fieldLink RX4 16 "Formationist" "ups" "[Z", Cond.fieldLink RX4 43 "Formationist" "blocked" "LFormationist$Net;", Cond.fieldLink RX4 51 "Formationist" "range" "I"]
def wsX4_trees_r2 : List Cond := [Cond.instanceMethod yX1_joins, Cond.selects RX1 yX1_joins yX1_joins, Cond.code yX1_joins cX1_joins 3 (some .boolean), Cond.methodLink RX1 28 yX1_holds, Cond.static yX1_holds, Cond.code yX1_holds cX1_holds 2 (some .boolean), Cond.methodLink RX4 215 yX4_squareBetween, Cond.instanceMethod yX4_squareBetween, Cond.selects RX4 yX4_squareBetween yX4_squareBetween, Cond.code yX4_squareBetween cX4_squareBetween 5 (some .int), Cond.fieldLink RX4 9 "Formationist" "xs" "[I", Cond.fieldLink RX4 13 "Formationist" "ys" "[I", Cond.instanceMethod yX1_join, Cond.selects RX1 yX1_join yX1_join, Cond.code yX1_join cX1_join 3 none, Cond.methodLink RX1 21 yX1_with, Cond.static yX1_with, Cond.code yX1_with cX1_with 2 (some .int), Cond.methodLink RX4 148 yX4_upSet, Cond.instanceMethod yX4_upSet, Cond.selects RX4 yX4_upSet yX4_upSet, Cond.code yX4_upSet cX4_upSet 3 (some .int), Cond.instanceMethod yX3_treesOf, Cond.initialized RX3]
def wsX4_trees_r3 : List Cond := [Cond.selects RX3 yX3_treesOf yX3_treesOf, Cond.code yX3_treesOf cX3_treesOf 4 (some .long), Cond.methodLink RX3 16 yJ6_numberOfTrailingZeros_0f7a4, Cond.static yJ6_numberOfTrailingZeros_0f7a4, Cond.initialized RJ6, Cond.code yJ6_numberOfTrailingZeros_0f7a4 cJ6_numberOfTrailingZeros_0f7a4 2 (some .int), Cond.constant RJ6 264 (65536), Cond.static yX1_without, Cond.code yX1_without cX1_without 2 (some .int), Cond.methodLink RX3 28 yX3_fill, Cond.instanceMethod yX3_fill, Cond.selects RX3 yX3_fill yX3_fill, Cond.code yX3_fill cX3_fill 5 (some .int), Cond.fieldLink RX3 11 "Formationist$TreeMatrix" "rows" "[[J", Cond.methodLink RX3 40 yX3_fillRow, Cond.static yX3_fillRow, Cond.code yX3_fillRow cX3_fillRow 6 none, Cond.constantLong RX3 47 (-1), Cond.instanceMethod yX1_degreeOf, Cond.selects RX1 yX1_degreeOf yX1_degreeOf, Cond.code yX1_degreeOf cX1_degreeOf 2 (some .int), Cond.methodLink RX1 32 yJ6_bitCount_0f7a4, Cond.static yJ6_bitCount_0f7a4, Cond.code yJ6_bitCount_0f7a4 cJ6_bitCount_0f7a4 1 (some .int)]
def wsX4_trees_r4 : List Cond := [Cond.constant RJ6 265 (1431655765), Cond.constant RJ6 266 (858993459), Cond.constant RJ6 267 (252645135), Cond.methodLink RX3 32 yX3_determinant, Cond.instanceMethod yX3_determinant, Cond.selects RX3 yX3_determinant yX3_determinant, Cond.code yX3_determinant cX3_determinant 11 (some .long)]
def wsX4_trees : List Cond := .code yX4_trees cX4_trees 1 (some .long) :: ((wsX4_trees_r1 ++ (wsX4_trees_r2 ++ (wsX4_trees_r3 ++ wsX4_trees_r4))) ++ wsX40 ++ wsX10 ++ wsX30)
def wsX4_requireValue : List Cond := .code yX4_requireValue cX4_requireValue 1 none :: ([.constant RX4 213 (-1000000), .constant RX4 214 (1000000), .methodLink RX4 105 yX4_requireWithin, .static yX4_requireWithin, .initialized RX4, .code yX4_requireWithin cX4_requireWithin 3 none, .classLink RX4 206 "java/lang/IllegalArgumentException", .initialized "java/lang/IllegalArgumentException"] ++ (vx_atS RX4 210 "java/lang/IllegalArgumentException" ["java/lang/RuntimeException", "java/lang/Exception"]).filter goodWord)
def wsX4_setEstimate : List Cond := .code yX4_setEstimate cX4_setEstimate 4 (some .int) :: ([.fieldLink RX4 23 "Formationist" "estimates" "[I", .methodLink RX4 101 yX4_requireMember, .instanceMethod yX4_requireMember, .selects RX4 yX4_requireMember yX4_requireMember, .initialized RX4, .code yX4_requireMember cX4_requireMember 2 none, .classLink RX4 201 "java/lang/IndexOutOfBoundsException", .initialized "java/lang/IndexOutOfBoundsException", .fieldLink RX4 47 "Formationist" "count" "I", .methodLink RX4 155 yX4_requireValue, .static yX4_requireValue, .code yX4_requireValue cX4_requireValue 1 none, .constant RX4 213 (-1000000), .constant RX4 214 (1000000), .methodLink RX4 105 yX4_requireWithin, .static yX4_requireWithin, .code yX4_requireWithin cX4_requireWithin 3 none, .classLink RX4 206 "java/lang/IllegalArgumentException", .initialized "java/lang/IllegalArgumentException"] ++ wsX40 ++ (vx_atS RX4 205 "java/lang/IndexOutOfBoundsException" ["java/lang/RuntimeException", "java/lang/Exception"]).filter goodWord ++ (vx_atS RX4 210 "java/lang/IllegalArgumentException" ["java/lang/RuntimeException", "java/lang/Exception"]).filter goodWord)
def wsX4_estimate : List Cond := .code yX4_estimate cX4_estimate 2 (some .int) :: ([.fieldLink RX4 23 "Formationist" "estimates" "[I", .methodLink RX4 101 yX4_requireMember, .instanceMethod yX4_requireMember, .selects RX4 yX4_requireMember yX4_requireMember, .initialized RX4, .code yX4_requireMember cX4_requireMember 2 none, .classLink RX4 201 "java/lang/IndexOutOfBoundsException", .initialized "java/lang/IndexOutOfBoundsException", .fieldLink RX4 47 "Formationist" "count" "I"] ++ wsX40 ++ (vx_atS RX4 205 "java/lang/IndexOutOfBoundsException" ["java/lang/RuntimeException", "java/lang/Exception"]).filter goodWord)
def wsX4_requireRounds : List Cond := .code yX4_requireRounds cX4_requireRounds 1 none :: ([.methodLink RX4 105 yX4_requireWithin, .static yX4_requireWithin, .initialized RX4, .code yX4_requireWithin cX4_requireWithin 3 none, .classLink RX4 206 "java/lang/IllegalArgumentException", .initialized "java/lang/IllegalArgumentException"] ++ (vx_atS RX4 210 "java/lang/IllegalArgumentException" ["java/lang/RuntimeException", "java/lang/Exception"]).filter goodWord)
def wsX4_flowBetween : List Cond := .code yX4_flowBetween cX4_flowBetween 4 (some .int) :: ([.fieldLink RX4 54 "Formationist" "net" "LFormationist$Net;", .methodLink RX4 231 Lib.Math.max.name, .static Lib.Math.max.name, .initialized "java/lang/Math", .code Lib.Math.max.name Lib.Math.max.code 2 (some .int), .fieldLink RX4 23 "Formationist" "estimates" "[I", .instanceMethod yX1_degreeOf, .initialized RX1, .selects RX1 yX1_degreeOf yX1_degreeOf, .code yX1_degreeOf cX1_degreeOf 2 (some .int), .fieldLink RX1 9 "Formationist$Net" "others" "[I", .methodLink RX1 32 yJ6_bitCount_0f7a4, .static yJ6_bitCount_0f7a4, .initialized RJ6, .code yJ6_bitCount_0f7a4 cJ6_bitCount_0f7a4 1 (some .int), .constant RJ6 265 (1431655765), .constant RJ6 266 (858993459), .constant RJ6 267 (252645135)] ++ wsX40 ++ wsX10)
def wsX4_addChanges : List Cond := .code yX4_addChanges cX4_addChanges 4 none :: ([.fieldLink RX4 47 "Formationist" "count" "I"] ++ wsX40)
def wsX4_exchangeEstimates_r1 : List Cond := [Cond.fieldLink RX4 57 "Formationist" "changes" "[I", Cond.fieldLink RX4 47 "Formationist" "count" "I", Cond.fieldLink RX4 54 "Formationist" "net" "LFormationist$Net;", Cond.fieldLink RX4 23 "Formationist" "estimates" "[I", Cond.methodLink RX4 84 yJ7_fill_53178, Cond.static yJ7_fill_53178, Cond.initialized RJ7, Cond.code yJ7_fill_53178 cJ7_fill_53178 4 none, Cond.instanceMethod yX1_joins, Cond.initialized RX1, Cond.selects RX1 yX1_joins yX1_joins, Cond.code yX1_joins cX1_joins 3 (some .boolean), Cond.fieldLink RX1 9 "Formationist$Net" "others" "[I", Cond.methodLink RX1 28 yX1_holds, Cond.static yX1_holds, Cond.code yX1_holds cX1_holds 2 (some .boolean), Cond.methodLink RX4 224 yX4_flowBetween, Cond.instanceMethod yX4_flowBetween, Cond.selects RX4 yX4_flowBetween yX4_flowBetween, Cond.initialized RX4, Cond.code yX4_flowBetween cX4_flowBetween 4 (some .int), Cond.methodLink RX4 231 Lib.Math.max.name, Cond.static Lib.Math.max.name, Cond.initialized "java/lang/Math"]
def wsX4_exchangeEstimates_r2 : List Cond := [Cond.code Lib.Math.max.name Lib.Math.max.code 2 (some .int), Cond.instanceMethod yX1_degreeOf, Cond.selects RX1 yX1_degreeOf yX1_degreeOf, Cond.code yX1_degreeOf cX1_degreeOf 2 (some .int), Cond.methodLink RX1 32 yJ6_bitCount_0f7a4, Cond.static yJ6_bitCount_0f7a4, Cond.initialized RJ6, Cond.code yJ6_bitCount_0f7a4 cJ6_bitCount_0f7a4 1 (some .int), Cond.constant RJ6 265 (1431655765), Cond.constant RJ6 266 (858993459), Cond.constant RJ6 267 (252645135), Cond.methodLink RX4 227 yX4_addChanges, Cond.instanceMethod yX4_addChanges, Cond.selects RX4 yX4_addChanges yX4_addChanges, Cond.code yX4_addChanges cX4_addChanges 4 none]
def wsX4_exchangeEstimates : List Cond := .code yX4_exchangeEstimates cX4_exchangeEstimates 4 none :: ((wsX4_exchangeEstimates_r1 ++ wsX4_exchangeEstimates_r2) ++ wsX40 ++ wsX10)
def wsX4_spanOfEstimates : List Cond := .code yX4_spanOfEstimates cX4_spanOfEstimates 4 (some .int) :: ([.fieldLink RX4 47 "Formationist" "count" "I", .fieldLink RX4 23 "Formationist" "estimates" "[I", .methodLink RX4 234 Lib.Math.min.name, .static Lib.Math.min.name, .initialized "java/lang/Math", .code Lib.Math.min.name Lib.Math.min.code 2 (some .int), .methodLink RX4 231 Lib.Math.max.name, .static Lib.Math.max.name, .code Lib.Math.max.name Lib.Math.max.code 2 (some .int)] ++ wsX40)
def wsX4_agree_r1 : List Cond := [Cond.methodLink RX4 158 yX4_requireRounds, Cond.static yX4_requireRounds, Cond.initialized RX4, Cond.code yX4_requireRounds cX4_requireRounds 1 none, Cond.methodLink RX4 105 yX4_requireWithin, Cond.static yX4_requireWithin, Cond.code yX4_requireWithin cX4_requireWithin 3 none, Cond.classLink RX4 206 "java/lang/IllegalArgumentException", Cond.initialized "java/lang/IllegalArgumentException", Cond.methodLink RX4 125 yX4_drawNet, Cond.instanceMethod yX4_drawNet, Cond.selects RX4 yX4_drawNet yX4_drawNet, Cond.code yX4_drawNet cX4_drawNet 3 none, Cond.fieldLink RX4 54 "Formationist" "net" "LFormationist$Net;", Cond.fieldLink RX4 47 "Formationist" "count" "I", Cond.instanceMethod yX1_clear, Cond.initialized RX1, Cond.selects RX1 yX1_clear yX1_clear, Cond.code yX1_clear cX1_clear 1 none, Cond.fieldLink RX1 9 "Formationist$Net" "others" "[I", Cond.methodLink RX1 15 yJ7_fill_53178, Cond.static yJ7_fill_53178, Cond.initialized RJ7, Cond.code yJ7_fill_53178 cJ7_fill_53178 4 none]
def wsX4_agree_r2 : List Cond := [Cond.methodLink RX4 122 yX4_hears, Cond.instanceMethod yX4_hears, Cond.selects RX4 yX4_hears yX4_hears, Cond.code yX4_hears cX4_hears 3 (some .boolean), Cond.fieldLink RX4 16 "Formationist" "ups" "[Z", Cond.fieldLink RX4 43 "Formationist" "blocked" "LFormationist$Net;", Cond.fieldLink RX4 51 "Formationist" "range" "I", Cond.instanceMethod yX1_joins, Cond.selects RX1 yX1_joins yX1_joins, Cond.code yX1_joins cX1_joins 3 (some .boolean), Cond.methodLink RX1 28 yX1_holds, Cond.static yX1_holds, Cond.code yX1_holds cX1_holds 2 (some .boolean), Cond.methodLink RX4 215 yX4_squareBetween, Cond.instanceMethod yX4_squareBetween, Cond.selects RX4 yX4_squareBetween yX4_squareBetween, Cond.code yX4_squareBetween cX4_squareBetween 5 (some .int), Cond.fieldLink RX4 9 "Formationist" "xs" "[I", Cond.fieldLink RX4 13 "Formationist" "ys" "[I", Cond.instanceMethod yX1_join, Cond.selects RX1 yX1_join yX1_join, Cond.code yX1_join cX1_join 3 none, Cond.methodLink RX1 21 yX1_with, Cond.static yX1_with]
def wsX4_agree_r3 : List Cond := [Cond.code yX1_with cX1_with 2 (some .int), Cond.methodLink RX4 161 yX4_exchangeEstimates, Cond.instanceMethod yX4_exchangeEstimates, Cond.selects RX4 yX4_exchangeEstimates yX4_exchangeEstimates, Cond.code yX4_exchangeEstimates cX4_exchangeEstimates 4 none, Cond.fieldLink RX4 57 "Formationist" "changes" "[I", Cond.fieldLink RX4 23 "Formationist" "estimates" "[I", Cond.methodLink RX4 84 yJ7_fill_53178, Cond.methodLink RX4 224 yX4_flowBetween, Cond.instanceMethod yX4_flowBetween, Cond.selects RX4 yX4_flowBetween yX4_flowBetween, Cond.code yX4_flowBetween cX4_flowBetween 4 (some .int), Cond.methodLink RX4 231 Lib.Math.max.name, Cond.static Lib.Math.max.name, Cond.initialized "java/lang/Math", Cond.code Lib.Math.max.name Lib.Math.max.code 2 (some .int), Cond.instanceMethod yX1_degreeOf, Cond.selects RX1 yX1_degreeOf yX1_degreeOf, Cond.code yX1_degreeOf cX1_degreeOf 2 (some .int), Cond.methodLink RX1 32 yJ6_bitCount_0f7a4, Cond.static yJ6_bitCount_0f7a4, Cond.initialized RJ6, Cond.code yJ6_bitCount_0f7a4 cJ6_bitCount_0f7a4 1 (some .int), Cond.constant RJ6 265 (1431655765)]
def wsX4_agree_r4 : List Cond := [Cond.constant RJ6 266 (858993459), Cond.constant RJ6 267 (252645135), Cond.methodLink RX4 227 yX4_addChanges, Cond.instanceMethod yX4_addChanges, Cond.selects RX4 yX4_addChanges yX4_addChanges, Cond.code yX4_addChanges cX4_addChanges 4 none, Cond.methodLink RX4 164 yX4_spanOfEstimates, Cond.instanceMethod yX4_spanOfEstimates, Cond.selects RX4 yX4_spanOfEstimates yX4_spanOfEstimates, Cond.code yX4_spanOfEstimates cX4_spanOfEstimates 4 (some .int), Cond.methodLink RX4 234 Lib.Math.min.name, Cond.static Lib.Math.min.name, Cond.code Lib.Math.min.name Lib.Math.min.code 2 (some .int)]
def wsX4_agree : List Cond := .code yX4_agree cX4_agree 3 (some .int) :: ((wsX4_agree_r1 ++ (wsX4_agree_r2 ++ (wsX4_agree_r3 ++ wsX4_agree_r4))) ++ wsX40 ++ wsX10 ++ (vx_atS RX4 210 "java/lang/IllegalArgumentException" ["java/lang/RuntimeException", "java/lang/Exception"]).filter goodWord)
def wsX4_setSum : List Cond := .code yX4_setSum cX4_setSum 4 (some .int) :: ([.fieldLink RX4 26 "Formationist" "sums" "[I", .methodLink RX4 101 yX4_requireMember, .instanceMethod yX4_requireMember, .selects RX4 yX4_requireMember yX4_requireMember, .initialized RX4, .code yX4_requireMember cX4_requireMember 2 none, .classLink RX4 201 "java/lang/IndexOutOfBoundsException", .initialized "java/lang/IndexOutOfBoundsException", .fieldLink RX4 47 "Formationist" "count" "I", .methodLink RX4 155 yX4_requireValue, .static yX4_requireValue, .code yX4_requireValue cX4_requireValue 1 none, .constant RX4 213 (-1000000), .constant RX4 214 (1000000), .methodLink RX4 105 yX4_requireWithin, .static yX4_requireWithin, .code yX4_requireWithin cX4_requireWithin 3 none, .classLink RX4 206 "java/lang/IllegalArgumentException", .initialized "java/lang/IllegalArgumentException"] ++ wsX40 ++ (vx_atS RX4 205 "java/lang/IndexOutOfBoundsException" ["java/lang/RuntimeException", "java/lang/Exception"]).filter goodWord ++ (vx_atS RX4 210 "java/lang/IllegalArgumentException" ["java/lang/RuntimeException", "java/lang/Exception"]).filter goodWord)
def wsX4_sum : List Cond := .code yX4_sum cX4_sum 2 (some .int) :: ([.fieldLink RX4 26 "Formationist" "sums" "[I", .methodLink RX4 101 yX4_requireMember, .instanceMethod yX4_requireMember, .selects RX4 yX4_requireMember yX4_requireMember, .initialized RX4, .code yX4_requireMember cX4_requireMember 2 none, .classLink RX4 201 "java/lang/IndexOutOfBoundsException", .initialized "java/lang/IndexOutOfBoundsException", .fieldLink RX4 47 "Formationist" "count" "I"] ++ wsX40 ++ (vx_atS RX4 205 "java/lang/IndexOutOfBoundsException" ["java/lang/RuntimeException", "java/lang/Exception"]).filter goodWord)
def wsX4_weight : List Cond := .code yX4_weight cX4_weight 2 (some .int) :: ([.fieldLink RX4 29 "Formationist" "weights" "[I", .methodLink RX4 101 yX4_requireMember, .instanceMethod yX4_requireMember, .selects RX4 yX4_requireMember yX4_requireMember, .initialized RX4, .code yX4_requireMember cX4_requireMember 2 none, .classLink RX4 201 "java/lang/IndexOutOfBoundsException", .initialized "java/lang/IndexOutOfBoundsException", .fieldLink RX4 47 "Formationist" "count" "I"] ++ wsX40 ++ (vx_atS RX4 205 "java/lang/IndexOutOfBoundsException" ["java/lang/RuntimeException", "java/lang/Exception"]).filter goodWord)
def wsX4_nextReceiver : List Cond := .code yX4_nextReceiver cX4_nextReceiver 4 (some .int) :: ([.fieldLink RX4 47 "Formationist" "count" "I", .fieldLink RX4 54 "Formationist" "net" "LFormationist$Net;", .fieldLink RX4 32 "Formationist" "lastReceivers" "[I", .instanceMethod yX1_joins, .initialized RX1, .selects RX1 yX1_joins yX1_joins, .code yX1_joins cX1_joins 3 (some .boolean), .fieldLink RX1 9 "Formationist$Net" "others" "[I", .methodLink RX1 28 yX1_holds, .static yX1_holds, .code yX1_holds cX1_holds 2 (some .boolean)] ++ wsX40 ++ wsX10)
def wsX4_handOver : List Cond := .code yX4_handOver cX4_handOver 4 none :: ([])
def wsX4_handHalves_r1 : List Cond := [Cond.fieldLink RX4 57 "Formationist" "changes" "[I", Cond.fieldLink RX4 60 "Formationist" "moreChanges" "[I", Cond.fieldLink RX4 47 "Formationist" "count" "I", Cond.fieldLink RX4 26 "Formationist" "sums" "[I", Cond.fieldLink RX4 29 "Formationist" "weights" "[I", Cond.fieldLink RX4 32 "Formationist" "lastReceivers" "[I", Cond.methodLink RX4 84 yJ7_fill_53178, Cond.static yJ7_fill_53178, Cond.initialized RJ7, Cond.code yJ7_fill_53178 cJ7_fill_53178 4 none, Cond.methodLink RX4 237 yX4_nextReceiver, Cond.instanceMethod yX4_nextReceiver, Cond.selects RX4 yX4_nextReceiver yX4_nextReceiver, Cond.initialized RX4, Cond.code yX4_nextReceiver cX4_nextReceiver 4 (some .int), Cond.fieldLink RX4 54 "Formationist" "net" "LFormationist$Net;", Cond.instanceMethod yX1_joins, Cond.initialized RX1, Cond.selects RX1 yX1_joins yX1_joins, Cond.code yX1_joins cX1_joins 3 (some .boolean), Cond.fieldLink RX1 9 "Formationist$Net" "others" "[I", Cond.methodLink RX1 28 yX1_holds, Cond.static yX1_holds, Cond.code yX1_holds cX1_holds 2 (some .boolean)]
def wsX4_handHalves_r2 : List Cond := [Cond.methodLink RX4 240 yX4_handOver, Cond.static yX4_handOver, Cond.code yX4_handOver cX4_handOver 4 none, Cond.methodLink RX4 227 yX4_addChanges, Cond.instanceMethod yX4_addChanges, Cond.selects RX4 yX4_addChanges yX4_addChanges, Cond.code yX4_addChanges cX4_addChanges 4 none]
def wsX4_handHalves : List Cond := .code yX4_handHalves cX4_handHalves 4 (some .int) :: ((wsX4_handHalves_r1 ++ wsX4_handHalves_r2) ++ wsX40 ++ wsX10)
def wsX4_spread_r1 : List Cond := [Cond.methodLink RX4 158 yX4_requireRounds, Cond.static yX4_requireRounds, Cond.initialized RX4, Cond.code yX4_requireRounds cX4_requireRounds 1 none, Cond.methodLink RX4 105 yX4_requireWithin, Cond.static yX4_requireWithin, Cond.code yX4_requireWithin cX4_requireWithin 3 none, Cond.classLink RX4 206 "java/lang/IllegalArgumentException", Cond.initialized "java/lang/IllegalArgumentException", Cond.methodLink RX4 125 yX4_drawNet, Cond.instanceMethod yX4_drawNet, Cond.selects RX4 yX4_drawNet yX4_drawNet, Cond.code yX4_drawNet cX4_drawNet 3 none, Cond.fieldLink RX4 54 "Formationist" "net" "LFormationist$Net;", Cond.fieldLink RX4 47 "Formationist" "count" "I", Cond.instanceMethod yX1_clear, Cond.initialized RX1, Cond.selects RX1 yX1_clear yX1_clear, Cond.code yX1_clear cX1_clear 1 none, Cond.fieldLink RX1 9 "Formationist$Net" "others" "[I", Cond.methodLink RX1 15 yJ7_fill_53178, Cond.static yJ7_fill_53178, Cond.initialized RJ7, Cond.code yJ7_fill_53178 cJ7_fill_53178 4 none]
def wsX4_spread_r2 : List Cond := [Cond.methodLink RX4 122 yX4_hears, Cond.instanceMethod yX4_hears, Cond.selects RX4 yX4_hears yX4_hears, Cond.code yX4_hears cX4_hears 3 (some .boolean), Cond.fieldLink RX4 16 "Formationist" "ups" "[Z", Cond.fieldLink RX4 43 "Formationist" "blocked" "LFormationist$Net;", Cond.fieldLink RX4 51 "Formationist" "range" "I", Cond.instanceMethod yX1_joins, Cond.selects RX1 yX1_joins yX1_joins, Cond.code yX1_joins cX1_joins 3 (some .boolean), Cond.methodLink RX1 28 yX1_holds, Cond.static yX1_holds, Cond.code yX1_holds cX1_holds 2 (some .boolean), Cond.methodLink RX4 215 yX4_squareBetween, Cond.instanceMethod yX4_squareBetween, Cond.selects RX4 yX4_squareBetween yX4_squareBetween, Cond.code yX4_squareBetween cX4_squareBetween 5 (some .int), Cond.fieldLink RX4 9 "Formationist" "xs" "[I", Cond.fieldLink RX4 13 "Formationist" "ys" "[I", Cond.instanceMethod yX1_join, Cond.selects RX1 yX1_join yX1_join, Cond.code yX1_join cX1_join 3 none, Cond.methodLink RX1 21 yX1_with, Cond.static yX1_with]
def wsX4_spread_r3 : List Cond := [Cond.code yX1_with cX1_with 2 (some .int), Cond.methodLink RX4 167 yX4_handHalves, Cond.instanceMethod yX4_handHalves, Cond.selects RX4 yX4_handHalves yX4_handHalves, Cond.code yX4_handHalves cX4_handHalves 4 (some .int), Cond.fieldLink RX4 57 "Formationist" "changes" "[I", Cond.fieldLink RX4 60 "Formationist" "moreChanges" "[I", Cond.fieldLink RX4 26 "Formationist" "sums" "[I", Cond.fieldLink RX4 29 "Formationist" "weights" "[I", Cond.fieldLink RX4 32 "Formationist" "lastReceivers" "[I", Cond.methodLink RX4 84 yJ7_fill_53178, Cond.methodLink RX4 237 yX4_nextReceiver, Cond.instanceMethod yX4_nextReceiver, Cond.selects RX4 yX4_nextReceiver yX4_nextReceiver, Cond.code yX4_nextReceiver cX4_nextReceiver 4 (some .int), Cond.methodLink RX4 240 yX4_handOver, Cond.static yX4_handOver, Cond.code yX4_handOver cX4_handOver 4 none, Cond.methodLink RX4 227 yX4_addChanges, Cond.instanceMethod yX4_addChanges, Cond.selects RX4 yX4_addChanges yX4_addChanges, Cond.code yX4_addChanges cX4_addChanges 4 none]
def wsX4_spread : List Cond := .code yX4_spread cX4_spread 4 (some .int) :: ((wsX4_spread_r1 ++ (wsX4_spread_r2 ++ wsX4_spread_r3)) ++ wsX40 ++ wsX10 ++ (vx_atS RX4 210 "java/lang/IllegalArgumentException" ["java/lang/RuntimeException", "java/lang/Exception"]).filter goodWord)
def wsX4_want : List Cond := .code yX4_want cX4_want 5 (some .int) :: ([.constant RX4 170 (8000000), .fieldLink RX4 37 "Formationist" "wantedSquares" "[[I", .methodLink RX4 109 yX4_requireUnlike, .instanceMethod yX4_requireUnlike, .selects RX4 yX4_requireUnlike yX4_requireUnlike, .initialized RX4, .code yX4_requireUnlike cX4_requireUnlike 3 none, .classLink RX4 206 "java/lang/IllegalArgumentException", .initialized "java/lang/IllegalArgumentException", .methodLink RX4 101 yX4_requireMember, .instanceMethod yX4_requireMember, .selects RX4 yX4_requireMember yX4_requireMember, .code yX4_requireMember cX4_requireMember 2 none, .classLink RX4 201 "java/lang/IndexOutOfBoundsException", .initialized "java/lang/IndexOutOfBoundsException", .fieldLink RX4 47 "Formationist" "count" "I", .methodLink RX4 105 yX4_requireWithin, .static yX4_requireWithin, .code yX4_requireWithin cX4_requireWithin 3 none] ++ wsX40 ++ (vx_atS RX4 210 "java/lang/IllegalArgumentException" ["java/lang/RuntimeException", "java/lang/Exception"]).filter goodWord ++ (vx_atS RX4 205 "java/lang/IndexOutOfBoundsException" ["java/lang/RuntimeException", "java/lang/Exception"]).filter goodWord)
def wsX4_excessOf : List Cond := .code yX4_excessOf cX4_excessOf 3 (some .int) :: ([.fieldLink RX4 54 "Formationist" "net" "LFormationist$Net;", .fieldLink RX4 37 "Formationist" "wantedSquares" "[[I", .instanceMethod yX1_joins, .initialized RX1, .selects RX1 yX1_joins yX1_joins, .code yX1_joins cX1_joins 3 (some .boolean), .fieldLink RX1 9 "Formationist$Net" "others" "[I", .methodLink RX1 28 yX1_holds, .static yX1_holds, .code yX1_holds cX1_holds 2 (some .boolean), .methodLink RX4 215 yX4_squareBetween, .instanceMethod yX4_squareBetween, .selects RX4 yX4_squareBetween yX4_squareBetween, .initialized RX4, .code yX4_squareBetween cX4_squareBetween 5 (some .int), .fieldLink RX4 9 "Formationist" "xs" "[I", .fieldLink RX4 13 "Formationist" "ys" "[I"] ++ wsX40 ++ wsX10)
def wsX4_error_r1 : List Cond := [Cond.fieldLink RX4 47 "Formationist" "count" "I", Cond.methodLink RX4 175 Lib.Math.abs.name, Cond.static Lib.Math.abs.name, Cond.initialized "java/lang/Math", Cond.code Lib.Math.abs.name Lib.Math.abs.code 1 (some .int), Cond.methodLink RX4 125 yX4_drawNet, Cond.instanceMethod yX4_drawNet, Cond.selects RX4 yX4_drawNet yX4_drawNet, Cond.initialized RX4, Cond.code yX4_drawNet cX4_drawNet 3 none, Cond.fieldLink RX4 54 "Formationist" "net" "LFormationist$Net;", Cond.instanceMethod yX1_clear, Cond.initialized RX1, Cond.selects RX1 yX1_clear yX1_clear, Cond.code yX1_clear cX1_clear 1 none, Cond.fieldLink RX1 9 "Formationist$Net" "others" "[I", Cond.methodLink RX1 15 yJ7_fill_53178, Cond.static yJ7_fill_53178, Cond.initialized RJ7, Cond.code yJ7_fill_53178 cJ7_fill_53178 4 none, Cond.methodLink RX4 122 yX4_hears, Cond.instanceMethod yX4_hears, Cond.selects RX4 yX4_hears yX4_hears, Cond.code yX4_hears cX4_hears 3 (some .boolean)]
def wsX4_error_r2 : List Cond := [Cond.fieldLink RX4 16 "Formationist" "ups" "[Z", Cond.fieldLink RX4 43 "Formationist" "blocked" "LFormationist$Net;", Cond.fieldLink RX4 51 "Formationist" "range" "I", Cond.instanceMethod yX1_joins, Cond.selects RX1 yX1_joins yX1_joins, Cond.code yX1_joins cX1_joins 3 (some .boolean), Cond.methodLink RX1 28 yX1_holds, Cond.static yX1_holds, Cond.code yX1_holds cX1_holds 2 (some .boolean), Cond.methodLink RX4 215 yX4_squareBetween, Cond.instanceMethod yX4_squareBetween, Cond.selects RX4 yX4_squareBetween yX4_squareBetween, Cond.code yX4_squareBetween cX4_squareBetween 5 (some .int), Cond.fieldLink RX4 9 "Formationist" "xs" "[I", Cond.fieldLink RX4 13 "Formationist" "ys" "[I", Cond.instanceMethod yX1_join, Cond.selects RX1 yX1_join yX1_join, Cond.code yX1_join cX1_join 3 none, Cond.methodLink RX1 21 yX1_with, Cond.static yX1_with, Cond.code yX1_with cX1_with 2 (some .int), Cond.methodLink RX4 171 yX4_excessOf, Cond.instanceMethod yX4_excessOf, Cond.selects RX4 yX4_excessOf yX4_excessOf]
def wsX4_error_r3 : List Cond := [Cond.code yX4_excessOf cX4_excessOf 3 (some .int), Cond.fieldLink RX4 37 "Formationist" "wantedSquares" "[[I"]
def wsX4_error : List Cond := .code yX4_error cX4_error 4 (some .int) :: ((wsX4_error_r1 ++ (wsX4_error_r2 ++ wsX4_error_r3)) ++ wsX40 ++ wsX10)
def wsX4_stepOf_r1 : List Cond := [Cond.fieldLink RX4 47 "Formationist" "count" "I", Cond.constantLong RX4 251 (1000000), Cond.constantLong RX4 253 (-50), Cond.constantLong RX4 255 (50), Cond.methodLink RX4 257 Lib.MathLoose.min_long.x, Cond.static Lib.MathLoose.min_long.x, Cond.initialized "java/lang/Math", Cond.code Lib.MathLoose.min_long.x Lib.MathLoose.min_long.code 4 (some .long), Cond.methodLink RX4 260 Lib.MathLoose.max_long.x, Cond.static Lib.MathLoose.max_long.x, Cond.code Lib.MathLoose.max_long.x Lib.MathLoose.max_long.code 4 (some .long), Cond.methodLink RX4 171 yX4_excessOf, Cond.instanceMethod yX4_excessOf, Cond.selects RX4 yX4_excessOf yX4_excessOf, Cond.initialized RX4, Cond.code yX4_excessOf cX4_excessOf 3 (some .int), Cond.fieldLink RX4 54 "Formationist" "net" "LFormationist$Net;", Cond.fieldLink RX4 37 "Formationist" "wantedSquares" "[[I", Cond.instanceMethod yX1_joins, Cond.initialized RX1, Cond.selects RX1 yX1_joins yX1_joins, Cond.code yX1_joins cX1_joins 3 (some .boolean), Cond.fieldLink RX1 9 "Formationist$Net" "others" "[I", Cond.methodLink RX1 28 yX1_holds]
def wsX4_stepOf_r2 : List Cond := [Cond.static yX1_holds, Cond.code yX1_holds cX1_holds 2 (some .boolean), Cond.methodLink RX4 215 yX4_squareBetween, Cond.instanceMethod yX4_squareBetween, Cond.selects RX4 yX4_squareBetween yX4_squareBetween, Cond.code yX4_squareBetween cX4_squareBetween 5 (some .int), Cond.fieldLink RX4 9 "Formationist" "xs" "[I", Cond.fieldLink RX4 13 "Formationist" "ys" "[I"]
def wsX4_stepOf : List Cond := .code yX4_stepOf cX4_stepOf 8 (some .int) :: ((wsX4_stepOf_r1 ++ wsX4_stepOf_r2) ++ wsX40 ++ wsX10)
def wsX4_keptOnPlane : List Cond := .code yX4_keptOnPlane cX4_keptOnPlane 1 (some .int) :: ([.methodLink RX4 234 Lib.Math.min.name, .static Lib.Math.min.name, .initialized "java/lang/Math", .code Lib.Math.min.name Lib.Math.min.code 2 (some .int), .methodLink RX4 231 Lib.Math.max.name, .static Lib.Math.max.name, .code Lib.Math.max.name Lib.Math.max.code 2 (some .int)])
def wsX4_stepTogether_r1 : List Cond := [Cond.fieldLink RX4 47 "Formationist" "count" "I", Cond.fieldLink RX4 57 "Formationist" "changes" "[I", Cond.fieldLink RX4 9 "Formationist" "xs" "[I", Cond.fieldLink RX4 60 "Formationist" "moreChanges" "[I", Cond.fieldLink RX4 13 "Formationist" "ys" "[I", Cond.methodLink RX4 125 yX4_drawNet, Cond.instanceMethod yX4_drawNet, Cond.selects RX4 yX4_drawNet yX4_drawNet, Cond.initialized RX4, Cond.code yX4_drawNet cX4_drawNet 3 none, Cond.fieldLink RX4 54 "Formationist" "net" "LFormationist$Net;", Cond.instanceMethod yX1_clear, Cond.initialized RX1, Cond.selects RX1 yX1_clear yX1_clear, Cond.code yX1_clear cX1_clear 1 none, Cond.fieldLink RX1 9 "Formationist$Net" "others" "[I", Cond.methodLink RX1 15 yJ7_fill_53178, Cond.static yJ7_fill_53178, Cond.initialized RJ7, Cond.code yJ7_fill_53178 cJ7_fill_53178 4 none, Cond.methodLink RX4 122 yX4_hears, Cond.instanceMethod yX4_hears, Cond.selects RX4 yX4_hears yX4_hears, Cond.code yX4_hears cX4_hears 3 (some .boolean)]
def wsX4_stepTogether_r2 : List Cond := [Cond.fieldLink RX4 16 "Formationist" "ups" "[Z", Cond.fieldLink RX4 43 "Formationist" "blocked" "LFormationist$Net;", Cond.fieldLink RX4 51 "Formationist" "range" "I", Cond.instanceMethod yX1_joins, Cond.selects RX1 yX1_joins yX1_joins, Cond.code yX1_joins cX1_joins 3 (some .boolean), Cond.methodLink RX1 28 yX1_holds, Cond.static yX1_holds, Cond.code yX1_holds cX1_holds 2 (some .boolean), Cond.methodLink RX4 215 yX4_squareBetween, Cond.instanceMethod yX4_squareBetween, Cond.selects RX4 yX4_squareBetween yX4_squareBetween, Cond.code yX4_squareBetween cX4_squareBetween 5 (some .int), Cond.instanceMethod yX1_join, Cond.selects RX1 yX1_join yX1_join, Cond.code yX1_join cX1_join 3 none, Cond.methodLink RX1 21 yX1_with, Cond.static yX1_with, Cond.code yX1_with cX1_with 2 (some .int), Cond.methodLink RX4 244 yX4_stepOf, Cond.instanceMethod yX4_stepOf, Cond.selects RX4 yX4_stepOf yX4_stepOf, Cond.code yX4_stepOf cX4_stepOf 8 (some .int), Cond.constantLong RX4 251 (1000000)]
def wsX4_stepTogether_r3 : List Cond := [Cond.constantLong RX4 253 (-50), Cond.constantLong RX4 255 (50), Cond.methodLink RX4 257 Lib.MathLoose.min_long.x, Cond.static Lib.MathLoose.min_long.x, Cond.initialized "java/lang/Math", Cond.code Lib.MathLoose.min_long.x Lib.MathLoose.min_long.code 4 (some .long), Cond.methodLink RX4 260 Lib.MathLoose.max_long.x, Cond.static Lib.MathLoose.max_long.x, Cond.code Lib.MathLoose.max_long.x Lib.MathLoose.max_long.code 4 (some .long), Cond.methodLink RX4 171 yX4_excessOf, Cond.instanceMethod yX4_excessOf, Cond.selects RX4 yX4_excessOf yX4_excessOf, Cond.code yX4_excessOf cX4_excessOf 3 (some .int), Cond.fieldLink RX4 37 "Formationist" "wantedSquares" "[[I", Cond.methodLink RX4 248 yX4_keptOnPlane, Cond.static yX4_keptOnPlane, Cond.code yX4_keptOnPlane cX4_keptOnPlane 1 (some .int), Cond.methodLink RX4 234 Lib.Math.min.name, Cond.static Lib.Math.min.name, Cond.code Lib.Math.min.name Lib.Math.min.code 2 (some .int), Cond.methodLink RX4 231 Lib.Math.max.name, Cond.static Lib.Math.max.name, Cond.code Lib.Math.max.name Lib.Math.max.code 2 (some .int)]
def wsX4_stepTogether : List Cond := .code yX4_stepTogether cX4_stepTogether 2 none :: ((wsX4_stepTogether_r1 ++ (wsX4_stepTogether_r2 ++ wsX4_stepTogether_r3)) ++ wsX40 ++ wsX10)
def wsX4_settle_r1 : List Cond := [Cond.methodLink RX4 158 yX4_requireRounds, Cond.static yX4_requireRounds, Cond.initialized RX4, Cond.code yX4_requireRounds cX4_requireRounds 1 none, Cond.methodLink RX4 105 yX4_requireWithin, Cond.static yX4_requireWithin, Cond.code yX4_requireWithin cX4_requireWithin 3 none, Cond.classLink RX4 206 "java/lang/IllegalArgumentException", Cond.initialized "java/lang/IllegalArgumentException", Cond.methodLink RX4 180 yX4_stepTogether, Cond.instanceMethod yX4_stepTogether, Cond.selects RX4 yX4_stepTogether yX4_stepTogether, Cond.code yX4_stepTogether cX4_stepTogether 2 none, Cond.fieldLink RX4 47 "Formationist" "count" "I", Cond.fieldLink RX4 57 "Formationist" "changes" "[I", Cond.fieldLink RX4 9 "Formationist" "xs" "[I", Cond.fieldLink RX4 60 "Formationist" "moreChanges" "[I", Cond.fieldLink RX4 13 "Formationist" "ys" "[I", Cond.methodLink RX4 125 yX4_drawNet, Cond.instanceMethod yX4_drawNet, Cond.selects RX4 yX4_drawNet yX4_drawNet, Cond.code yX4_drawNet cX4_drawNet 3 none, Cond.fieldLink RX4 54 "Formationist" "net" "LFormationist$Net;", Cond.instanceMethod yX1_clear]
def wsX4_settle_r2 : List Cond := [Cond.initialized RX1, Cond.selects RX1 yX1_clear yX1_clear, Cond.code yX1_clear cX1_clear 1 none, Cond.fieldLink RX1 9 "Formationist$Net" "others" "[I", Cond.methodLink RX1 15 yJ7_fill_53178, Cond.static yJ7_fill_53178, Cond.initialized RJ7, Cond.code yJ7_fill_53178 cJ7_fill_53178 4 none, Cond.methodLink RX4 122 yX4_hears, Cond.instanceMethod yX4_hears, Cond.selects RX4 yX4_hears yX4_hears, Cond.code yX4_hears cX4_hears 3 (some .boolean), Cond.fieldLink RX4 16 "Formationist" "ups" "[Z", Cond.fieldLink RX4 43 "Formationist" "blocked" "LFormationist$Net;", Cond.fieldLink RX4 51 "Formationist" "range" "I", Cond.instanceMethod yX1_joins, Cond.selects RX1 yX1_joins yX1_joins, Cond.code yX1_joins cX1_joins 3 (some .boolean), Cond.methodLink RX1 28 yX1_holds, Cond.static yX1_holds, Cond.code yX1_holds cX1_holds 2 (some .boolean), Cond.methodLink RX4 215 yX4_squareBetween, Cond.instanceMethod yX4_squareBetween, Cond.selects RX4 yX4_squareBetween yX4_squareBetween]
def wsX4_settle_r3 : List Cond := [Cond.code yX4_squareBetween cX4_squareBetween 5 (some .int), Cond.instanceMethod yX1_join, Cond.selects RX1 yX1_join yX1_join, Cond.code yX1_join cX1_join 3 none, Cond.methodLink RX1 21 yX1_with, Cond.static yX1_with, Cond.code yX1_with cX1_with 2 (some .int), Cond.methodLink RX4 244 yX4_stepOf, Cond.instanceMethod yX4_stepOf, Cond.selects RX4 yX4_stepOf yX4_stepOf, Cond.code yX4_stepOf cX4_stepOf 8 (some .int), Cond.constantLong RX4 251 (1000000), Cond.constantLong RX4 253 (-50), Cond.constantLong RX4 255 (50), Cond.methodLink RX4 257 Lib.MathLoose.min_long.x, Cond.static Lib.MathLoose.min_long.x, Cond.initialized "java/lang/Math", Cond.code Lib.MathLoose.min_long.x Lib.MathLoose.min_long.code 4 (some .long), Cond.methodLink RX4 260 Lib.MathLoose.max_long.x, Cond.static Lib.MathLoose.max_long.x, Cond.code Lib.MathLoose.max_long.x Lib.MathLoose.max_long.code 4 (some .long), Cond.methodLink RX4 171 yX4_excessOf, Cond.instanceMethod yX4_excessOf, Cond.selects RX4 yX4_excessOf yX4_excessOf]
def wsX4_settle_r4 : List Cond := [Cond.code yX4_excessOf cX4_excessOf 3 (some .int), Cond.fieldLink RX4 37 "Formationist" "wantedSquares" "[[I", Cond.methodLink RX4 248 yX4_keptOnPlane, Cond.static yX4_keptOnPlane, Cond.code yX4_keptOnPlane cX4_keptOnPlane 1 (some .int), Cond.methodLink RX4 234 Lib.Math.min.name, Cond.static Lib.Math.min.name, Cond.code Lib.Math.min.name Lib.Math.min.code 2 (some .int), Cond.methodLink RX4 231 Lib.Math.max.name, Cond.static Lib.Math.max.name, Cond.code Lib.Math.max.name Lib.Math.max.code 2 (some .int), Cond.methodLink RX4 183 yX4_error, Cond.instanceMethod yX4_error, Cond.selects RX4 yX4_error yX4_error, Cond.code yX4_error cX4_error 4 (some .int), Cond.methodLink RX4 175 Lib.Math.abs.name, Cond.static Lib.Math.abs.name, Cond.code Lib.Math.abs.name Lib.Math.abs.code 1 (some .int)]
def wsX4_settle : List Cond := .code yX4_settle cX4_settle 3 (some .int) :: ((wsX4_settle_r1 ++ (wsX4_settle_r2 ++ (wsX4_settle_r3 ++ wsX4_settle_r4))) ++ wsX40 ++ wsX10 ++ (vx_atS RX4 210 "java/lang/IllegalArgumentException" ["java/lang/RuntimeException", "java/lang/Exception"]).filter goodWord)
def wsX4_rank_r1 : List Cond := [Cond.fieldLink RX4 66 "Formationist" "pebbleGame" "LFormationist$PebbleGame;", Cond.fieldLink RX4 54 "Formationist" "net" "LFormationist$Net;", Cond.methodLink RX4 125 yX4_drawNet, Cond.instanceMethod yX4_drawNet, Cond.selects RX4 yX4_drawNet yX4_drawNet, Cond.initialized RX4, Cond.code yX4_drawNet cX4_drawNet 3 none, Cond.fieldLink RX4 47 "Formationist" "count" "I", Cond.instanceMethod yX1_clear, Cond.initialized RX1, Cond.selects RX1 yX1_clear yX1_clear, Cond.code yX1_clear cX1_clear 1 none, Cond.fieldLink RX1 9 "Formationist$Net" "others" "[I", Cond.methodLink RX1 15 yJ7_fill_53178, Cond.static yJ7_fill_53178, Cond.initialized RJ7, Cond.code yJ7_fill_53178 cJ7_fill_53178 4 none, Cond.methodLink RX4 122 yX4_hears, Cond.instanceMethod yX4_hears, Cond.selects RX4 yX4_hears yX4_hears, Cond.code yX4_hears cX4_hears 3 (some .boolean), Cond.fieldLink RX4 16 "Formationist" "ups" "[Z", Cond.fieldLink RX4 43 "Formationist" "blocked" "LFormationist$Net;", Cond.fieldLink RX4 51 "Formationist" "range" "I"]
def wsX4_rank_r2 : List Cond := [Cond.instanceMethod yX1_joins, Cond.selects RX1 yX1_joins yX1_joins, Cond.code yX1_joins cX1_joins 3 (some .boolean), Cond.methodLink RX1 28 yX1_holds, Cond.static yX1_holds, Cond.code yX1_holds cX1_holds 2 (some .boolean), Cond.methodLink RX4 215 yX4_squareBetween, Cond.instanceMethod yX4_squareBetween, Cond.selects RX4 yX4_squareBetween yX4_squareBetween, Cond.code yX4_squareBetween cX4_squareBetween 5 (some .int), Cond.fieldLink RX4 9 "Formationist" "xs" "[I", Cond.fieldLink RX4 13 "Formationist" "ys" "[I", Cond.instanceMethod yX1_join, Cond.selects RX1 yX1_join yX1_join, Cond.code yX1_join cX1_join 3 none, Cond.methodLink RX1 21 yX1_with, Cond.static yX1_with, Cond.code yX1_with cX1_with 2 (some .int), Cond.instanceMethod yX2_rankOf, Cond.initialized RX2, Cond.selects RX2 yX2_rankOf yX2_rankOf, Cond.code yX2_rankOf cX2_rankOf 5 (some .int), Cond.fieldLink RX2 9 "Formationist$PebbleGame" "pebbles" "[I", Cond.fieldLink RX2 15 "Formationist$PebbleGame" "arcs" "[I"]
def wsX4_rank_r3 : List Cond := [Cond.methodLink RX2 21 yJ7_fill_53178, Cond.methodLink RX2 33 yX2_gatherPebbles, Cond.instanceMethod yX2_gatherPebbles, Cond.selects RX2 yX2_gatherPebbles yX2_gatherPebbles, Cond.code yX2_gatherPebbles cX2_gatherPebbles 4 (some .boolean), Cond.methodLink RX2 40 yX2_fetchPebble, Cond.instanceMethod yX2_fetchPebble, Cond.selects RX2 yX2_fetchPebble yX2_fetchPebble, Cond.code yX2_fetchPebble cX2_fetchPebble 4 (some .boolean), Cond.methodLink RX2 43 yX2_findPebble, Cond.instanceMethod yX2_findPebble, Cond.selects RX2 yX2_findPebble yX2_findPebble, Cond.code yX2_findPebble cX2_findPebble 9 (some .int), Cond.fieldLink RX2 18 "Formationist$PebbleGame" "cameFrom" "[I", Cond.methodLink RX2 53 yX2_noteWay, Cond.instanceMethod yX2_noteWay, Cond.selects RX2 yX2_noteWay yX2_noteWay, Cond.code yX2_noteWay cX2_noteWay 4 none, Cond.methodLink RX2 57 yX2_holderAmong, Cond.instanceMethod yX2_holderAmong, Cond.selects RX2 yX2_holderAmong yX2_holderAmong, Cond.code yX2_holderAmong cX2_holderAmong 3 (some .int), Cond.methodLink RX2 46 yX2_turnArcs, Cond.instanceMethod yX2_turnArcs]
def wsX4_rank_r4 : List Cond := [Cond.selects RX2 yX2_turnArcs yX2_turnArcs, Cond.code yX2_turnArcs cX2_turnArcs 5 none, Cond.static yX1_without, Cond.code yX1_without cX1_without 2 (some .int)]
def wsX4_rank : List Cond := .code yX4_rank cX4_rank 1 (some .int) :: ((wsX4_rank_r1 ++ (wsX4_rank_r2 ++ (wsX4_rank_r3 ++ wsX4_rank_r4))) ++ wsX40 ++ wsX10 ++ wsX20)
def wsX4_rankByCounting_r1 : List Cond := [Cond.fieldLink RX4 73 "Formationist" "linkCounts" "LFormationist$LinkCounts;", Cond.fieldLink RX4 54 "Formationist" "net" "LFormationist$Net;", Cond.methodLink RX4 125 yX4_drawNet, Cond.instanceMethod yX4_drawNet, Cond.selects RX4 yX4_drawNet yX4_drawNet, Cond.initialized RX4, Cond.code yX4_drawNet cX4_drawNet 3 none, Cond.fieldLink RX4 47 "Formationist" "count" "I", Cond.instanceMethod yX1_clear, Cond.initialized RX1, Cond.selects RX1 yX1_clear yX1_clear, Cond.code yX1_clear cX1_clear 1 none, Cond.fieldLink RX1 9 "Formationist$Net" "others" "[I", Cond.methodLink RX1 15 yJ7_fill_53178, Cond.static yJ7_fill_53178, Cond.initialized RJ7, Cond.code yJ7_fill_53178 cJ7_fill_53178 4 none, Cond.methodLink RX4 122 yX4_hears, Cond.instanceMethod yX4_hears, Cond.selects RX4 yX4_hears yX4_hears, Cond.code yX4_hears cX4_hears 3 (some .boolean), Cond.fieldLink RX4 16 "Formationist" "ups" "[Z", Cond.fieldLink RX4 43 "Formationist" "blocked" "LFormationist$Net;", Cond.fieldLink RX4 51 "Formationist" "range" "I"]
def wsX4_rankByCounting_r2 : List Cond := [Cond.instanceMethod yX1_joins, Cond.selects RX1 yX1_joins yX1_joins, Cond.code yX1_joins cX1_joins 3 (some .boolean), Cond.methodLink RX1 28 yX1_holds, Cond.static yX1_holds, Cond.code yX1_holds cX1_holds 2 (some .boolean), Cond.methodLink RX4 215 yX4_squareBetween, Cond.instanceMethod yX4_squareBetween, Cond.selects RX4 yX4_squareBetween yX4_squareBetween, Cond.code yX4_squareBetween cX4_squareBetween 5 (some .int), Cond.fieldLink RX4 9 "Formationist" "xs" "[I", Cond.fieldLink RX4 13 "Formationist" "ys" "[I", Cond.instanceMethod yX1_join, Cond.selects RX1 yX1_join yX1_join, Cond.code yX1_join cX1_join 3 none, Cond.methodLink RX1 21 yX1_with, Cond.static yX1_with, Cond.code yX1_with cX1_with 2 (some .int), Cond.instanceMethod yX0_rankOf, Cond.initialized RX0, Cond.selects RX0 yX0_rankOf yX0_rankOf, Cond.code yX0_rankOf cX0_rankOf 6 (some .int), Cond.fieldLink RX0 11 "Formationist$LinkCounts" "linksWithin" "[I", Cond.methodLink RX0 15 yJ7_fill_53178]
def wsX4_rankByCounting_r3 : List Cond := [Cond.methodLink RX0 31 yX0_leavesFree, Cond.instanceMethod yX0_leavesFree, Cond.selects RX0 yX0_leavesFree yX0_leavesFree, Cond.code yX0_leavesFree cX0_leavesFree 4 (some .boolean), Cond.methodLink RX0 39 yJ6_bitCount_0f7a4, Cond.static yJ6_bitCount_0f7a4, Cond.initialized RJ6, Cond.code yJ6_bitCount_0f7a4 cJ6_bitCount_0f7a4 1 (some .int), Cond.constant RJ6 265 (1431655765), Cond.constant RJ6 266 (858993459), Cond.constant RJ6 267 (252645135), Cond.methodLink RX0 35 yX0_keepLink, Cond.instanceMethod yX0_keepLink, Cond.selects RX0 yX0_keepLink yX0_keepLink, Cond.code yX0_keepLink cX0_keepLink 3 none]
def wsX4_rankByCounting : List Cond := .code yX4_rankByCounting cX4_rankByCounting 1 (some .int) :: ((wsX4_rankByCounting_r1 ++ (wsX4_rankByCounting_r2 ++ wsX4_rankByCounting_r3)) ++ wsX40 ++ wsX10 ++ wsX00)
def wsX4_isRigid_r1 : List Cond := [Cond.fieldLink RX4 66 "Formationist" "pebbleGame" "LFormationist$PebbleGame;", Cond.fieldLink RX4 54 "Formationist" "net" "LFormationist$Net;", Cond.methodLink RX4 125 yX4_drawNet, Cond.instanceMethod yX4_drawNet, Cond.selects RX4 yX4_drawNet yX4_drawNet, Cond.initialized RX4, Cond.code yX4_drawNet cX4_drawNet 3 none, Cond.fieldLink RX4 47 "Formationist" "count" "I", Cond.instanceMethod yX1_clear, Cond.initialized RX1, Cond.selects RX1 yX1_clear yX1_clear, Cond.code yX1_clear cX1_clear 1 none, Cond.fieldLink RX1 9 "Formationist$Net" "others" "[I", Cond.methodLink RX1 15 yJ7_fill_53178, Cond.static yJ7_fill_53178, Cond.initialized RJ7, Cond.code yJ7_fill_53178 cJ7_fill_53178 4 none, Cond.methodLink RX4 122 yX4_hears, Cond.instanceMethod yX4_hears, Cond.selects RX4 yX4_hears yX4_hears, Cond.code yX4_hears cX4_hears 3 (some .boolean), Cond.fieldLink RX4 16 "Formationist" "ups" "[Z", Cond.fieldLink RX4 43 "Formationist" "blocked" "LFormationist$Net;", Cond.fieldLink RX4 51 "Formationist" "range" "I"]
def wsX4_isRigid_r2 : List Cond := [Cond.instanceMethod yX1_joins, Cond.selects RX1 yX1_joins yX1_joins, Cond.code yX1_joins cX1_joins 3 (some .boolean), Cond.methodLink RX1 28 yX1_holds, Cond.static yX1_holds, Cond.code yX1_holds cX1_holds 2 (some .boolean), Cond.methodLink RX4 215 yX4_squareBetween, Cond.instanceMethod yX4_squareBetween, Cond.selects RX4 yX4_squareBetween yX4_squareBetween, Cond.code yX4_squareBetween cX4_squareBetween 5 (some .int), Cond.fieldLink RX4 9 "Formationist" "xs" "[I", Cond.fieldLink RX4 13 "Formationist" "ys" "[I", Cond.instanceMethod yX1_join, Cond.selects RX1 yX1_join yX1_join, Cond.code yX1_join cX1_join 3 none, Cond.methodLink RX1 21 yX1_with, Cond.static yX1_with, Cond.code yX1_with cX1_with 2 (some .int), Cond.methodLink RX4 148 yX4_upSet, Cond.instanceMethod yX4_upSet, Cond.selects RX4 yX4_upSet yX4_upSet, Cond.code yX4_upSet cX4_upSet 3 (some .int), Cond.methodLink RX4 191 yJ6_bitCount_0f7a4, Cond.static yJ6_bitCount_0f7a4]
def wsX4_isRigid_r3 : List Cond := [Cond.initialized RJ6, Cond.code yJ6_bitCount_0f7a4 cJ6_bitCount_0f7a4 1 (some .int), Cond.constant RJ6 265 (1431655765), Cond.constant RJ6 266 (858993459), Cond.constant RJ6 267 (252645135), Cond.methodLink RX4 136 yX4_countGroups, Cond.instanceMethod yX4_countGroups, Cond.selects RX4 yX4_countGroups yX4_countGroups, Cond.code yX4_countGroups cX4_countGroups 4 (some .int), Cond.instanceMethod yX1_groupOf, Cond.selects RX1 yX1_groupOf yX1_groupOf, Cond.code yX1_groupOf cX1_groupOf 6 (some .int), Cond.instanceMethod yX2_rankOf, Cond.initialized RX2, Cond.selects RX2 yX2_rankOf yX2_rankOf, Cond.code yX2_rankOf cX2_rankOf 5 (some .int), Cond.fieldLink RX2 9 "Formationist$PebbleGame" "pebbles" "[I", Cond.fieldLink RX2 15 "Formationist$PebbleGame" "arcs" "[I", Cond.methodLink RX2 21 yJ7_fill_53178, Cond.methodLink RX2 33 yX2_gatherPebbles, Cond.instanceMethod yX2_gatherPebbles, Cond.selects RX2 yX2_gatherPebbles yX2_gatherPebbles, Cond.code yX2_gatherPebbles cX2_gatherPebbles 4 (some .boolean), Cond.methodLink RX2 40 yX2_fetchPebble]
def wsX4_isRigid_r4 : List Cond := [Cond.instanceMethod yX2_fetchPebble, Cond.selects RX2 yX2_fetchPebble yX2_fetchPebble, Cond.code yX2_fetchPebble cX2_fetchPebble 4 (some .boolean), Cond.methodLink RX2 43 yX2_findPebble, Cond.instanceMethod yX2_findPebble, Cond.selects RX2 yX2_findPebble yX2_findPebble, Cond.code yX2_findPebble cX2_findPebble 9 (some .int), Cond.fieldLink RX2 18 "Formationist$PebbleGame" "cameFrom" "[I", Cond.methodLink RX2 53 yX2_noteWay, Cond.instanceMethod yX2_noteWay, Cond.selects RX2 yX2_noteWay yX2_noteWay, Cond.code yX2_noteWay cX2_noteWay 4 none, Cond.methodLink RX2 57 yX2_holderAmong, Cond.instanceMethod yX2_holderAmong, Cond.selects RX2 yX2_holderAmong yX2_holderAmong, Cond.code yX2_holderAmong cX2_holderAmong 3 (some .int), Cond.methodLink RX2 46 yX2_turnArcs, Cond.instanceMethod yX2_turnArcs, Cond.selects RX2 yX2_turnArcs yX2_turnArcs, Cond.code yX2_turnArcs cX2_turnArcs 5 none, Cond.static yX1_without, Cond.code yX1_without cX1_without 2 (some .int)]
def wsX4_isRigid : List Cond := .code yX4_isRigid cX4_isRigid 2 (some .boolean) :: ((wsX4_isRigid_r1 ++ (wsX4_isRigid_r2 ++ (wsX4_isRigid_r3 ++ wsX4_isRigid_r4))) ++ wsX40 ++ wsX10 ++ wsX20)
def wsX4_isSpare_r1 : List Cond := [Cond.classLink RX4 196 "java/util/NoSuchElementException", Cond.initialized "java/util/NoSuchElementException", Cond.fieldLink RX4 66 "Formationist" "pebbleGame" "LFormationist$PebbleGame;", Cond.fieldLink RX4 54 "Formationist" "net" "LFormationist$Net;", Cond.methodLink RX4 101 yX4_requireMember, Cond.instanceMethod yX4_requireMember, Cond.selects RX4 yX4_requireMember yX4_requireMember, Cond.initialized RX4, Cond.code yX4_requireMember cX4_requireMember 2 none, Cond.classLink RX4 201 "java/lang/IndexOutOfBoundsException", Cond.initialized "java/lang/IndexOutOfBoundsException", Cond.fieldLink RX4 47 "Formationist" "count" "I", Cond.methodLink RX4 122 yX4_hears, Cond.instanceMethod yX4_hears, Cond.selects RX4 yX4_hears yX4_hears, Cond.code yX4_hears cX4_hears 3 (some .boolean), Cond.fieldLink RX4 16 "Formationist" "ups" "[Z", Cond.fieldLink RX4 43 "Formationist" "blocked" "LFormationist$Net;", Cond.fieldLink RX4 51 "Formationist" "range" "I", Cond.instanceMethod yX1_joins, Cond.initialized RX1, Cond.selects RX1 yX1_joins yX1_joins, Cond.code yX1_joins cX1_joins 3 (some .boolean), Cond.fieldLink RX1 9 "Formationist$Net" "others" "[I"]
def wsX4_isSpare_r2 : List Cond := [Cond.methodLink RX1 28 yX1_holds, Cond.static yX1_holds, Cond.code yX1_holds cX1_holds 2 (some .boolean), Cond.methodLink RX4 215 yX4_squareBetween, Cond.instanceMethod yX4_squareBetween, Cond.selects RX4 yX4_squareBetween yX4_squareBetween, Cond.code yX4_squareBetween cX4_squareBetween 5 (some .int), Cond.fieldLink RX4 9 "Formationist" "xs" "[I", Cond.fieldLink RX4 13 "Formationist" "ys" "[I", Cond.methodLink RX4 125 yX4_drawNet, Cond.instanceMethod yX4_drawNet, Cond.selects RX4 yX4_drawNet yX4_drawNet, Cond.code yX4_drawNet cX4_drawNet 3 none, Cond.instanceMethod yX1_clear, Cond.selects RX1 yX1_clear yX1_clear, Cond.code yX1_clear cX1_clear 1 none, Cond.methodLink RX1 15 yJ7_fill_53178, Cond.static yJ7_fill_53178, Cond.initialized RJ7, Cond.code yJ7_fill_53178 cJ7_fill_53178 4 none, Cond.instanceMethod yX1_join, Cond.selects RX1 yX1_join yX1_join, Cond.code yX1_join cX1_join 3 none, Cond.methodLink RX1 21 yX1_with]
def wsX4_isSpare_r3 : List Cond := [Cond.static yX1_with, Cond.code yX1_with cX1_with 2 (some .int), Cond.instanceMethod yX2_rankOf, Cond.initialized RX2, Cond.selects RX2 yX2_rankOf yX2_rankOf, Cond.code yX2_rankOf cX2_rankOf 5 (some .int), Cond.fieldLink RX2 9 "Formationist$PebbleGame" "pebbles" "[I", Cond.fieldLink RX2 15 "Formationist$PebbleGame" "arcs" "[I", Cond.methodLink RX2 21 yJ7_fill_53178, Cond.methodLink RX2 33 yX2_gatherPebbles, Cond.instanceMethod yX2_gatherPebbles, Cond.selects RX2 yX2_gatherPebbles yX2_gatherPebbles, Cond.code yX2_gatherPebbles cX2_gatherPebbles 4 (some .boolean), Cond.methodLink RX2 40 yX2_fetchPebble, Cond.instanceMethod yX2_fetchPebble, Cond.selects RX2 yX2_fetchPebble yX2_fetchPebble, Cond.code yX2_fetchPebble cX2_fetchPebble 4 (some .boolean), Cond.methodLink RX2 43 yX2_findPebble, Cond.instanceMethod yX2_findPebble, Cond.selects RX2 yX2_findPebble yX2_findPebble, Cond.code yX2_findPebble cX2_findPebble 9 (some .int), Cond.fieldLink RX2 18 "Formationist$PebbleGame" "cameFrom" "[I", Cond.methodLink RX2 53 yX2_noteWay, Cond.instanceMethod yX2_noteWay]
def wsX4_isSpare_r4 : List Cond := [Cond.selects RX2 yX2_noteWay yX2_noteWay, Cond.code yX2_noteWay cX2_noteWay 4 none, Cond.methodLink RX2 57 yX2_holderAmong, Cond.instanceMethod yX2_holderAmong, Cond.selects RX2 yX2_holderAmong yX2_holderAmong, Cond.code yX2_holderAmong cX2_holderAmong 3 (some .int), Cond.methodLink RX2 46 yX2_turnArcs, Cond.instanceMethod yX2_turnArcs, Cond.selects RX2 yX2_turnArcs yX2_turnArcs, Cond.code yX2_turnArcs cX2_turnArcs 5 none, Cond.static yX1_without, Cond.code yX1_without cX1_without 2 (some .int), Cond.instanceMethod yX1_cut, Cond.selects RX1 yX1_cut yX1_cut, Cond.code yX1_cut cX1_cut 3 none, Cond.methodLink RX1 25 yX1_without]
def wsX4_isSpare : List Cond := .code yX4_isSpare cX4_isSpare 4 (some .boolean) :: ((wsX4_isSpare_r1 ++ (wsX4_isSpare_r2 ++ (wsX4_isSpare_r3 ++ wsX4_isSpare_r4))) ++ wsX40 ++ wsX10 ++ wsX20 ++ fx_at200.filter goodWord ++ (vx_atS RX4 205 "java/lang/IndexOutOfBoundsException" ["java/lang/RuntimeException", "java/lang/Exception"]).filter goodWord)
def wsJ9_abs_0f7a4 : List Cond := .code yJ9_abs_0f7a4 cJ9_abs_0f7a4 1 (some .int) :: ([])
def wsJ9_max_7cf53 : List Cond := .code yJ9_max_7cf53 cJ9_max_7cf53 2 (some .int) :: ([])
def wsJ9_max_f86c9 : List Cond := .code yJ9_max_f86c9 cJ9_max_f86c9 4 (some .long) :: ([])
def wsJ9_min_7cf53 : List Cond := .code yJ9_min_7cf53 cJ9_min_7cf53 2 (some .int) :: ([])
def wsJ9_min_f86c9 : List Cond := .code yJ9_min_f86c9 cJ9_min_f86c9 4 (some .long) :: ([])
def wsL_from : List Cond := .code yL_from cL_from 4 (some .int) :: ([.constant RL 7 (110969), .constant RL 8 (2147483647)])
def wsL_pair : List Cond := .code yL_pair cL_pair 2 (some .int) :: ([])
def wsL_square : List Cond := .code yL_square cL_square 5 (some .int) :: ([])
def wsL_heard : List Cond := .code yL_heard cL_heard 6 (some .int) :: ([.methodLink RL 9 yL_pair, .static yL_pair, .initialized RL, .code yL_pair cL_pair 2 (some .int), .methodLink RL 15 yL_square, .static yL_square, .code yL_square cL_square 5 (some .int)])
def wsL_ones : List Cond := .code yL_ones cL_ones 3 (some .int) :: ([])
def wsL_up : List Cond := .code yL_up cL_up 3 (some .int) :: ([])
def wsL_group : List Cond := .code yL_group cL_group 6 (some .int) :: ([])
def wsL_links : List Cond := .code yL_links cL_links 5 (some .int) :: ([.methodLink RL 19 yL_heard, .static yL_heard, .initialized RL, .code yL_heard cL_heard 6 (some .int), .methodLink RL 9 yL_pair, .static yL_pair, .code yL_pair cL_pair 2 (some .int), .methodLink RL 15 yL_square, .static yL_square, .code yL_square cL_square 5 (some .int)])
def wsL_isFree : List Cond := .code yL_isFree cL_isFree 4 (some .boolean) :: ([.methodLink RL 23 yL_ones, .static yL_ones, .initialized RL, .code yL_ones cL_ones 3 (some .int)])
def wsL_rank : List Cond := .code yL_rank cL_rank 3 (some .int) :: ([.methodLink RL 23 yL_ones, .static yL_ones, .initialized RL, .code yL_ones cL_ones 3 (some .int), .methodLink RL 27 yL_isFree, .static yL_isFree, .code yL_isFree cL_isFree 4 (some .boolean)])
def wsL_trees : List Cond := .code yL_trees cL_trees 6 (some .long) :: ([.methodLink RL 23 yL_ones, .static yL_ones, .initialized RL, .code yL_ones cL_ones 3 (some .int), .methodLink RL 31 yL_group, .static yL_group, .code yL_group cL_group 6 (some .int)])
def wsL_isLinked_r1 : List Cond := [Cond.methodLink RL 34 yL_links, Cond.static yL_links, Cond.initialized RL, Cond.code yL_links cL_links 5 (some .int), Cond.methodLink RL 19 yL_heard, Cond.static yL_heard, Cond.code yL_heard cL_heard 6 (some .int), Cond.methodLink RL 9 yL_pair, Cond.static yL_pair, Cond.code yL_pair cL_pair 2 (some .int), Cond.methodLink RL 15 yL_square, Cond.static yL_square, Cond.code yL_square cL_square 5 (some .int), Cond.methodLink RL 38 yX4_links, Cond.instanceMethod yX4_links, Cond.selects RX4 yX4_links yX4_links, Cond.initialized RX4, Cond.code yX4_links cX4_links 1 (some .int), Cond.fieldLink RX4 54 "Formationist" "net" "LFormationist$Net;", Cond.methodLink RX4 125 yX4_drawNet, Cond.instanceMethod yX4_drawNet, Cond.selects RX4 yX4_drawNet yX4_drawNet, Cond.code yX4_drawNet cX4_drawNet 3 none, Cond.fieldLink RX4 47 "Formationist" "count" "I"]
def wsL_isLinked_r2 : List Cond := [Cond.instanceMethod yX1_clear, Cond.initialized RX1, Cond.selects RX1 yX1_clear yX1_clear, Cond.code yX1_clear cX1_clear 1 none, Cond.fieldLink RX1 9 "Formationist$Net" "others" "[I", Cond.methodLink RX1 15 yJ7_fill_53178, Cond.static yJ7_fill_53178, Cond.initialized RJ7, Cond.code yJ7_fill_53178 cJ7_fill_53178 4 none, Cond.methodLink RX4 122 yX4_hears, Cond.instanceMethod yX4_hears, Cond.selects RX4 yX4_hears yX4_hears, Cond.code yX4_hears cX4_hears 3 (some .boolean), Cond.fieldLink RX4 16 "Formationist" "ups" "[Z", Cond.fieldLink RX4 43 "Formationist" "blocked" "LFormationist$Net;", Cond.fieldLink RX4 51 "Formationist" "range" "I", Cond.instanceMethod yX1_joins, Cond.selects RX1 yX1_joins yX1_joins, Cond.code yX1_joins cX1_joins 3 (some .boolean), Cond.methodLink RX1 28 yX1_holds, Cond.static yX1_holds, Cond.code yX1_holds cX1_holds 2 (some .boolean), Cond.methodLink RX4 215 yX4_squareBetween, Cond.instanceMethod yX4_squareBetween]
def wsL_isLinked_r3 : List Cond := [Cond.selects RX4 yX4_squareBetween yX4_squareBetween, Cond.code yX4_squareBetween cX4_squareBetween 5 (some .int), Cond.fieldLink RX4 9 "Formationist" "xs" "[I", Cond.fieldLink RX4 13 "Formationist" "ys" "[I", Cond.instanceMethod yX1_join, Cond.selects RX1 yX1_join yX1_join, Cond.code yX1_join cX1_join 3 none, Cond.methodLink RX1 21 yX1_with, Cond.static yX1_with, Cond.code yX1_with cX1_with 2 (some .int), Cond.instanceMethod yX1_pairCount, Cond.selects RX1 yX1_pairCount yX1_pairCount, Cond.code yX1_pairCount cX1_pairCount 3 (some .int), Cond.methodLink RX1 38 yX1_degreeOf, Cond.instanceMethod yX1_degreeOf, Cond.selects RX1 yX1_degreeOf yX1_degreeOf, Cond.code yX1_degreeOf cX1_degreeOf 2 (some .int), Cond.methodLink RX1 32 yJ6_bitCount_0f7a4, Cond.static yJ6_bitCount_0f7a4, Cond.initialized RJ6, Cond.code yJ6_bitCount_0f7a4 cJ6_bitCount_0f7a4 1 (some .int), Cond.constant RJ6 265 (1431655765), Cond.constant RJ6 266 (858993459), Cond.constant RJ6 267 (252645135)]
def wsL_isLinked_r4 : List Cond := [Cond.methodLink RL 23 yL_ones, Cond.static yL_ones, Cond.code yL_ones cL_ones 3 (some .int), Cond.methodLink RL 43 yX4_members, Cond.instanceMethod yX4_members, Cond.selects RX4 yX4_members yX4_members, Cond.code yX4_members cX4_members 1 (some .int), Cond.methodLink RL 31 yL_group, Cond.static yL_group, Cond.code yL_group cL_group 6 (some .int), Cond.methodLink RL 46 yX4_areLinked, Cond.instanceMethod yX4_areLinked, Cond.selects RX4 yX4_areLinked yX4_areLinked, Cond.code yX4_areLinked cX4_areLinked 3 (some .boolean), Cond.methodLink RX4 101 yX4_requireMember, Cond.instanceMethod yX4_requireMember, Cond.selects RX4 yX4_requireMember yX4_requireMember, Cond.code yX4_requireMember cX4_requireMember 2 none, Cond.classLink RX4 201 "java/lang/IndexOutOfBoundsException", Cond.initialized "java/lang/IndexOutOfBoundsException", Cond.methodLink RL 50 yX4_degree, Cond.instanceMethod yX4_degree, Cond.selects RX4 yX4_degree yX4_degree, Cond.code yX4_degree cX4_degree 2 (some .int)]
def wsL_isLinked_r5 : List Cond := [Cond.methodLink RL 53 yX4_leader, Cond.instanceMethod yX4_leader, Cond.selects RX4 yX4_leader yX4_leader, Cond.code yX4_leader cX4_leader 5 (some .int), Cond.instanceMethod yX1_groupOf, Cond.selects RX1 yX1_groupOf yX1_groupOf, Cond.code yX1_groupOf cX1_groupOf 6 (some .int), Cond.methodLink RX4 145 yX4_outranks, Cond.instanceMethod yX4_outranks, Cond.selects RX4 yX4_outranks yX4_outranks, Cond.code yX4_outranks cX4_outranks 3 (some .boolean), Cond.fieldLink RX4 20 "Formationist" "priorities" "[I", Cond.methodLink RL 56 yX4_xOf, Cond.instanceMethod yX4_xOf, Cond.selects RX4 yX4_xOf yX4_xOf, Cond.code yX4_xOf cX4_xOf 2 (some .int), Cond.methodLink RL 59 yX4_yOf, Cond.instanceMethod yX4_yOf, Cond.selects RX4 yX4_yOf yX4_yOf, Cond.code yX4_yOf cX4_yOf 2 (some .int), Cond.methodLink RL 62 yX4_estimate, Cond.instanceMethod yX4_estimate, Cond.selects RX4 yX4_estimate yX4_estimate, Cond.code yX4_estimate cX4_estimate 2 (some .int)]
def wsL_isLinked_r6 : List Cond := [Cond.fieldLink RX4 23 "Formationist" "estimates" "[I", Cond.methodLink RL 65 yX4_sum, Cond.instanceMethod yX4_sum, Cond.selects RX4 yX4_sum yX4_sum, Cond.code yX4_sum cX4_sum 2 (some .int), Cond.fieldLink RX4 26 "Formationist" "sums" "[I", Cond.methodLink RL 68 yX4_weight, Cond.instanceMethod yX4_weight, Cond.selects RX4 yX4_weight yX4_weight, Cond.code yX4_weight cX4_weight 2 (some .int), Cond.fieldLink RX4 29 "Formationist" "weights" "[I", Cond.methodLink RL 71 yX4_groups, Cond.instanceMethod yX4_groups, Cond.selects RX4 yX4_groups yX4_groups, Cond.code yX4_groups cX4_groups 1 (some .int), Cond.methodLink RX4 136 yX4_countGroups, Cond.instanceMethod yX4_countGroups, Cond.selects RX4 yX4_countGroups yX4_countGroups, Cond.code yX4_countGroups cX4_countGroups 4 (some .int)]
def wsL_isLinked : List Cond := .code yL_isLinked cL_isLinked 11 (some .boolean) :: ((wsL_isLinked_r1 ++ (wsL_isLinked_r2 ++ (wsL_isLinked_r3 ++ (wsL_isLinked_r4 ++ (wsL_isLinked_r5 ++ wsL_isLinked_r6))))) ++ wsX40 ++ wsX10 ++ (vx_atS RX4 205 "java/lang/IndexOutOfBoundsException" ["java/lang/RuntimeException", "java/lang/Exception"]).filter goodWord)
def wsL_spare_r1 : List Cond := [Cond.classLink RL 77 "java/util/NoSuchElementException", Cond.methodLink RL 74 yX4_isSpare, Cond.instanceMethod yX4_isSpare, Cond.selects RX4 yX4_isSpare yX4_isSpare, Cond.initialized RX4, Cond.code yX4_isSpare cX4_isSpare 4 (some .boolean), Cond.classLink RX4 196 "java/util/NoSuchElementException", Cond.initialized "java/util/NoSuchElementException", Cond.fieldLink RX4 66 "Formationist" "pebbleGame" "LFormationist$PebbleGame;", Cond.fieldLink RX4 54 "Formationist" "net" "LFormationist$Net;", Cond.methodLink RX4 101 yX4_requireMember, Cond.instanceMethod yX4_requireMember, Cond.selects RX4 yX4_requireMember yX4_requireMember, Cond.code yX4_requireMember cX4_requireMember 2 none, Cond.classLink RX4 201 "java/lang/IndexOutOfBoundsException", Cond.initialized "java/lang/IndexOutOfBoundsException", Cond.fieldLink RX4 47 "Formationist" "count" "I", Cond.methodLink RX4 122 yX4_hears, Cond.instanceMethod yX4_hears, Cond.selects RX4 yX4_hears yX4_hears, Cond.code yX4_hears cX4_hears 3 (some .boolean), Cond.fieldLink RX4 16 "Formationist" "ups" "[Z", Cond.fieldLink RX4 43 "Formationist" "blocked" "LFormationist$Net;", Cond.fieldLink RX4 51 "Formationist" "range" "I"]
def wsL_spare_r2 : List Cond := [Cond.instanceMethod yX1_joins, Cond.initialized RX1, Cond.selects RX1 yX1_joins yX1_joins, Cond.code yX1_joins cX1_joins 3 (some .boolean), Cond.fieldLink RX1 9 "Formationist$Net" "others" "[I", Cond.methodLink RX1 28 yX1_holds, Cond.static yX1_holds, Cond.code yX1_holds cX1_holds 2 (some .boolean), Cond.methodLink RX4 215 yX4_squareBetween, Cond.instanceMethod yX4_squareBetween, Cond.selects RX4 yX4_squareBetween yX4_squareBetween, Cond.code yX4_squareBetween cX4_squareBetween 5 (some .int), Cond.fieldLink RX4 9 "Formationist" "xs" "[I", Cond.fieldLink RX4 13 "Formationist" "ys" "[I", Cond.methodLink RX4 125 yX4_drawNet, Cond.instanceMethod yX4_drawNet, Cond.selects RX4 yX4_drawNet yX4_drawNet, Cond.code yX4_drawNet cX4_drawNet 3 none, Cond.instanceMethod yX1_clear, Cond.selects RX1 yX1_clear yX1_clear, Cond.code yX1_clear cX1_clear 1 none, Cond.methodLink RX1 15 yJ7_fill_53178, Cond.static yJ7_fill_53178, Cond.initialized RJ7]
def wsL_spare_r3 : List Cond := [Cond.code yJ7_fill_53178 cJ7_fill_53178 4 none, Cond.instanceMethod yX1_join, Cond.selects RX1 yX1_join yX1_join, Cond.code yX1_join cX1_join 3 none, Cond.methodLink RX1 21 yX1_with, Cond.static yX1_with, Cond.code yX1_with cX1_with 2 (some .int), Cond.instanceMethod yX2_rankOf, Cond.initialized RX2, Cond.selects RX2 yX2_rankOf yX2_rankOf, Cond.code yX2_rankOf cX2_rankOf 5 (some .int), Cond.fieldLink RX2 9 "Formationist$PebbleGame" "pebbles" "[I", Cond.fieldLink RX2 15 "Formationist$PebbleGame" "arcs" "[I", Cond.methodLink RX2 21 yJ7_fill_53178, Cond.methodLink RX2 33 yX2_gatherPebbles, Cond.instanceMethod yX2_gatherPebbles, Cond.selects RX2 yX2_gatherPebbles yX2_gatherPebbles, Cond.code yX2_gatherPebbles cX2_gatherPebbles 4 (some .boolean), Cond.methodLink RX2 40 yX2_fetchPebble, Cond.instanceMethod yX2_fetchPebble, Cond.selects RX2 yX2_fetchPebble yX2_fetchPebble, Cond.code yX2_fetchPebble cX2_fetchPebble 4 (some .boolean), Cond.methodLink RX2 43 yX2_findPebble, Cond.instanceMethod yX2_findPebble]
def wsL_spare_r4 : List Cond := [Cond.selects RX2 yX2_findPebble yX2_findPebble, Cond.code yX2_findPebble cX2_findPebble 9 (some .int), Cond.fieldLink RX2 18 "Formationist$PebbleGame" "cameFrom" "[I", Cond.methodLink RX2 53 yX2_noteWay, Cond.instanceMethod yX2_noteWay, Cond.selects RX2 yX2_noteWay yX2_noteWay, Cond.code yX2_noteWay cX2_noteWay 4 none, Cond.methodLink RX2 57 yX2_holderAmong, Cond.instanceMethod yX2_holderAmong, Cond.selects RX2 yX2_holderAmong yX2_holderAmong, Cond.code yX2_holderAmong cX2_holderAmong 3 (some .int), Cond.methodLink RX2 46 yX2_turnArcs, Cond.instanceMethod yX2_turnArcs, Cond.selects RX2 yX2_turnArcs yX2_turnArcs, Cond.code yX2_turnArcs cX2_turnArcs 5 none, Cond.static yX1_without, Cond.code yX1_without cX1_without 2 (some .int), Cond.instanceMethod yX1_cut, Cond.selects RX1 yX1_cut yX1_cut, Cond.code yX1_cut cX1_cut 3 none, Cond.methodLink RX1 25 yX1_without]
def wsL_spare : List Cond := .codeWith yL_spare cL_spare 4 (some .int) [(0, 14, 15, 77)] :: ((wsL_spare_r1 ++ (wsL_spare_r2 ++ (wsL_spare_r3 ++ wsL_spare_r4))) ++ wsX40 ++ wsX10 ++ wsX20 ++ fx_at200.filter goodWord ++ (vx_atS RX4 205 "java/lang/IndexOutOfBoundsException" ["java/lang/RuntimeException", "java/lang/Exception"]).filter goodWord)
def wsL_isFigure_r1 : List Cond := [Cond.methodLink RL 34 yL_links, Cond.static yL_links, Cond.initialized RL, Cond.code yL_links cL_links 5 (some .int), Cond.methodLink RL 19 yL_heard, Cond.static yL_heard, Cond.code yL_heard cL_heard 6 (some .int), Cond.methodLink RL 9 yL_pair, Cond.static yL_pair, Cond.code yL_pair cL_pair 2 (some .int), Cond.methodLink RL 15 yL_square, Cond.static yL_square, Cond.code yL_square cL_square 5 (some .int), Cond.methodLink RL 79 yL_rank, Cond.static yL_rank, Cond.code yL_rank cL_rank 3 (some .int), Cond.methodLink RL 23 yL_ones, Cond.static yL_ones, Cond.code yL_ones cL_ones 3 (some .int), Cond.methodLink RL 27 yL_isFree, Cond.static yL_isFree, Cond.code yL_isFree cL_isFree 4 (some .boolean), Cond.methodLink RL 82 yL_up, Cond.static yL_up]
def wsL_isFigure_r2 : List Cond := [Cond.code yL_up cL_up 3 (some .int), Cond.methodLink RL 31 yL_group, Cond.static yL_group, Cond.code yL_group cL_group 6 (some .int), Cond.methodLink RL 86 yX4_trees, Cond.instanceMethod yX4_trees, Cond.selects RX4 yX4_trees yX4_trees, Cond.initialized RX4, Cond.code yX4_trees cX4_trees 1 (some .long), Cond.fieldLink RX4 80 "Formationist" "treeMatrix" "LFormationist$TreeMatrix;", Cond.fieldLink RX4 54 "Formationist" "net" "LFormationist$Net;", Cond.methodLink RX4 125 yX4_drawNet, Cond.instanceMethod yX4_drawNet, Cond.selects RX4 yX4_drawNet yX4_drawNet, Cond.code yX4_drawNet cX4_drawNet 3 none, Cond.fieldLink RX4 47 "Formationist" "count" "I", Cond.instanceMethod yX1_clear, Cond.initialized RX1, Cond.selects RX1 yX1_clear yX1_clear, Cond.code yX1_clear cX1_clear 1 none, Cond.fieldLink RX1 9 "Formationist$Net" "others" "[I", Cond.methodLink RX1 15 yJ7_fill_53178, Cond.static yJ7_fill_53178, Cond.initialized RJ7]
def wsL_isFigure_r3 : List Cond := [Cond.code yJ7_fill_53178 cJ7_fill_53178 4 none, Cond.methodLink RX4 122 yX4_hears, Cond.instanceMethod yX4_hears, Cond.selects RX4 yX4_hears yX4_hears, Cond.code yX4_hears cX4_hears 3 (some .boolean), Cond.fieldLink RX4 16 "Formationist" "ups" "[Z", Cond.fieldLink RX4 43 "Formationist" "blocked" "LFormationist$Net;", Cond.fieldLink RX4 51 "Formationist" "range" "I", Cond.instanceMethod yX1_joins, Cond.selects RX1 yX1_joins yX1_joins, Cond.code yX1_joins cX1_joins 3 (some .boolean), Cond.methodLink RX1 28 yX1_holds, Cond.static yX1_holds, Cond.code yX1_holds cX1_holds 2 (some .boolean), Cond.methodLink RX4 215 yX4_squareBetween, Cond.instanceMethod yX4_squareBetween, Cond.selects RX4 yX4_squareBetween yX4_squareBetween, Cond.code yX4_squareBetween cX4_squareBetween 5 (some .int), Cond.fieldLink RX4 9 "Formationist" "xs" "[I", Cond.fieldLink RX4 13 "Formationist" "ys" "[I", Cond.instanceMethod yX1_join, Cond.selects RX1 yX1_join yX1_join, Cond.code yX1_join cX1_join 3 none, Cond.methodLink RX1 21 yX1_with]
def wsL_isFigure_r4 : List Cond := [Cond.static yX1_with, Cond.code yX1_with cX1_with 2 (some .int), Cond.methodLink RX4 148 yX4_upSet, Cond.instanceMethod yX4_upSet, Cond.selects RX4 yX4_upSet yX4_upSet, Cond.code yX4_upSet cX4_upSet 3 (some .int), Cond.instanceMethod yX3_treesOf, Cond.initialized RX3, Cond.selects RX3 yX3_treesOf yX3_treesOf, Cond.code yX3_treesOf cX3_treesOf 4 (some .long), Cond.methodLink RX3 16 yJ6_numberOfTrailingZeros_0f7a4, Cond.static yJ6_numberOfTrailingZeros_0f7a4, Cond.initialized RJ6, Cond.code yJ6_numberOfTrailingZeros_0f7a4 cJ6_numberOfTrailingZeros_0f7a4 2 (some .int), Cond.constant RJ6 264 (65536), Cond.static yX1_without, Cond.code yX1_without cX1_without 2 (some .int), Cond.methodLink RX3 28 yX3_fill, Cond.instanceMethod yX3_fill, Cond.selects RX3 yX3_fill yX3_fill, Cond.code yX3_fill cX3_fill 5 (some .int), Cond.fieldLink RX3 11 "Formationist$TreeMatrix" "rows" "[[J", Cond.methodLink RX3 40 yX3_fillRow, Cond.static yX3_fillRow]
def wsL_isFigure_r5 : List Cond := [Cond.code yX3_fillRow cX3_fillRow 6 none, Cond.constantLong RX3 47 (-1), Cond.instanceMethod yX1_degreeOf, Cond.selects RX1 yX1_degreeOf yX1_degreeOf, Cond.code yX1_degreeOf cX1_degreeOf 2 (some .int), Cond.methodLink RX1 32 yJ6_bitCount_0f7a4, Cond.static yJ6_bitCount_0f7a4, Cond.code yJ6_bitCount_0f7a4 cJ6_bitCount_0f7a4 1 (some .int), Cond.constant RJ6 265 (1431655765), Cond.constant RJ6 266 (858993459), Cond.constant RJ6 267 (252645135), Cond.methodLink RX3 32 yX3_determinant, Cond.instanceMethod yX3_determinant, Cond.selects RX3 yX3_determinant yX3_determinant, Cond.code yX3_determinant cX3_determinant 11 (some .long), Cond.methodLink RL 90 yL_trees, Cond.static yL_trees, Cond.code yL_trees cL_trees 6 (some .long), Cond.methodLink RL 93 yX4_rank, Cond.instanceMethod yX4_rank, Cond.selects RX4 yX4_rank yX4_rank, Cond.code yX4_rank cX4_rank 1 (some .int), Cond.fieldLink RX4 66 "Formationist" "pebbleGame" "LFormationist$PebbleGame;", Cond.instanceMethod yX2_rankOf]
def wsL_isFigure_r6 : List Cond := [Cond.initialized RX2, Cond.selects RX2 yX2_rankOf yX2_rankOf, Cond.code yX2_rankOf cX2_rankOf 5 (some .int), Cond.fieldLink RX2 9 "Formationist$PebbleGame" "pebbles" "[I", Cond.fieldLink RX2 15 "Formationist$PebbleGame" "arcs" "[I", Cond.methodLink RX2 21 yJ7_fill_53178, Cond.methodLink RX2 33 yX2_gatherPebbles, Cond.instanceMethod yX2_gatherPebbles, Cond.selects RX2 yX2_gatherPebbles yX2_gatherPebbles, Cond.code yX2_gatherPebbles cX2_gatherPebbles 4 (some .boolean), Cond.methodLink RX2 40 yX2_fetchPebble, Cond.instanceMethod yX2_fetchPebble, Cond.selects RX2 yX2_fetchPebble yX2_fetchPebble, Cond.code yX2_fetchPebble cX2_fetchPebble 4 (some .boolean), Cond.methodLink RX2 43 yX2_findPebble, Cond.instanceMethod yX2_findPebble, Cond.selects RX2 yX2_findPebble yX2_findPebble, Cond.code yX2_findPebble cX2_findPebble 9 (some .int), Cond.fieldLink RX2 18 "Formationist$PebbleGame" "cameFrom" "[I", Cond.methodLink RX2 53 yX2_noteWay, Cond.instanceMethod yX2_noteWay, Cond.selects RX2 yX2_noteWay yX2_noteWay, Cond.code yX2_noteWay cX2_noteWay 4 none, Cond.methodLink RX2 57 yX2_holderAmong]
def wsL_isFigure_r7 : List Cond := [Cond.instanceMethod yX2_holderAmong, Cond.selects RX2 yX2_holderAmong yX2_holderAmong, Cond.code yX2_holderAmong cX2_holderAmong 3 (some .int), Cond.methodLink RX2 46 yX2_turnArcs, Cond.instanceMethod yX2_turnArcs, Cond.selects RX2 yX2_turnArcs yX2_turnArcs, Cond.code yX2_turnArcs cX2_turnArcs 5 none, Cond.methodLink RL 95 yX4_rankByCounting, Cond.instanceMethod yX4_rankByCounting, Cond.selects RX4 yX4_rankByCounting yX4_rankByCounting, Cond.code yX4_rankByCounting cX4_rankByCounting 1 (some .int), Cond.fieldLink RX4 73 "Formationist" "linkCounts" "LFormationist$LinkCounts;", Cond.instanceMethod yX0_rankOf, Cond.initialized RX0, Cond.selects RX0 yX0_rankOf yX0_rankOf, Cond.code yX0_rankOf cX0_rankOf 6 (some .int), Cond.fieldLink RX0 11 "Formationist$LinkCounts" "linksWithin" "[I", Cond.methodLink RX0 15 yJ7_fill_53178, Cond.methodLink RX0 31 yX0_leavesFree, Cond.instanceMethod yX0_leavesFree, Cond.selects RX0 yX0_leavesFree yX0_leavesFree, Cond.code yX0_leavesFree cX0_leavesFree 4 (some .boolean), Cond.methodLink RX0 39 yJ6_bitCount_0f7a4, Cond.methodLink RX0 35 yX0_keepLink]
def wsL_isFigure_r8 : List Cond := [Cond.instanceMethod yX0_keepLink, Cond.selects RX0 yX0_keepLink yX0_keepLink, Cond.code yX0_keepLink cX0_keepLink 3 none, Cond.methodLink RL 98 yX4_isRigid, Cond.instanceMethod yX4_isRigid, Cond.selects RX4 yX4_isRigid yX4_isRigid, Cond.code yX4_isRigid cX4_isRigid 2 (some .boolean), Cond.methodLink RX4 191 yJ6_bitCount_0f7a4, Cond.methodLink RX4 136 yX4_countGroups, Cond.instanceMethod yX4_countGroups, Cond.selects RX4 yX4_countGroups yX4_countGroups, Cond.code yX4_countGroups cX4_countGroups 4 (some .int), Cond.instanceMethod yX1_groupOf, Cond.selects RX1 yX1_groupOf yX1_groupOf, Cond.code yX1_groupOf cX1_groupOf 6 (some .int), Cond.methodLink RL 102 yL_spare, Cond.static yL_spare, Cond.codeWith yL_spare cL_spare 4 (some .int) [(0, 14, 15, 77)], Cond.classLink RL 77 "java/util/NoSuchElementException", Cond.methodLink RL 74 yX4_isSpare, Cond.instanceMethod yX4_isSpare, Cond.selects RX4 yX4_isSpare yX4_isSpare, Cond.code yX4_isSpare cX4_isSpare 4 (some .boolean), Cond.classLink RX4 196 "java/util/NoSuchElementException"]
def wsL_isFigure_r9 : List Cond := [Cond.initialized "java/util/NoSuchElementException", Cond.methodLink RX4 101 yX4_requireMember, Cond.instanceMethod yX4_requireMember, Cond.selects RX4 yX4_requireMember yX4_requireMember, Cond.code yX4_requireMember cX4_requireMember 2 none, Cond.classLink RX4 201 "java/lang/IndexOutOfBoundsException", Cond.initialized "java/lang/IndexOutOfBoundsException", Cond.instanceMethod yX1_cut, Cond.selects RX1 yX1_cut yX1_cut, Cond.code yX1_cut cX1_cut 3 none, Cond.methodLink RX1 25 yX1_without]
def wsL_isFigure : List Cond := .code yL_isFigure cL_isFigure 13 (some .boolean) :: ((wsL_isFigure_r1 ++ (wsL_isFigure_r2 ++ (wsL_isFigure_r3 ++ (wsL_isFigure_r4 ++ (wsL_isFigure_r5 ++ (wsL_isFigure_r6 ++ (wsL_isFigure_r7 ++ (wsL_isFigure_r8 ++ wsL_isFigure_r9)))))))) ++ wsX40 ++ wsX10 ++ wsX30 ++ wsX20 ++ wsX00 ++ fx_at200.filter goodWord ++ (vx_atS RX4 205 "java/lang/IndexOutOfBoundsException" ["java/lang/RuntimeException", "java/lang/Exception"]).filter goodWord)
def wsL_error : List Cond := .code yL_error cL_error 7 (some .int) :: ([.methodLink RL 19 yL_heard, .static yL_heard, .initialized RL, .code yL_heard cL_heard 6 (some .int), .methodLink RL 9 yL_pair, .static yL_pair, .code yL_pair cL_pair 2 (some .int), .methodLink RL 15 yL_square, .static yL_square, .code yL_square cL_square 5 (some .int)])
def wsL_agreed : List Cond := .code yL_agreed cL_agreed 10 (some .int) :: ([.arrayClass .int, .methodLink RL 19 yL_heard, .static yL_heard, .initialized RL, .code yL_heard cL_heard 6 (some .int), .methodLink RL 9 yL_pair, .static yL_pair, .code yL_pair cL_pair 2 (some .int), .methodLink RL 15 yL_square, .static yL_square, .code yL_square cL_square 5 (some .int), .methodLink RL 23 yL_ones, .static yL_ones, .code yL_ones cL_ones 3 (some .int)])
def wsL_spread : List Cond := .code yL_spread cL_spread 10 (some .int) :: ([.arrayClass .int, .methodLink RL 19 yL_heard, .static yL_heard, .initialized RL, .code yL_heard cL_heard 6 (some .int), .methodLink RL 9 yL_pair, .static yL_pair, .code yL_pair cL_pair 2 (some .int), .methodLink RL 15 yL_square, .static yL_square, .code yL_square cL_square 5 (some .int)])
def wsL_moved : List Cond := .code yL_moved cL_moved 7 (some .int) :: ([.constantLong RL 106 (1000000), .constantLong RL 108 (50), .constantLong RL 110 (-50), .constantLong RL 112 (1000), .constantLong RL 114 (-1000)])
def wsL_settle : List Cond := .code yL_settle cL_settle 9 none :: ([.arrayClass .long, .methodLink RL 19 yL_heard, .static yL_heard, .initialized RL, .code yL_heard cL_heard 6 (some .int), .methodLink RL 9 yL_pair, .static yL_pair, .code yL_pair cL_pair 2 (some .int), .methodLink RL 15 yL_square, .static yL_square, .code yL_square cL_square 5 (some .int), .methodLink RL 116 yL_moved, .static yL_moved, .code yL_moved cL_moved 7 (some .int), .constantLong RL 106 (1000000), .constantLong RL 108 (50), .constantLong RL 110 (-50), .constantLong RL 112 (1000), .constantLong RL 114 (-1000)])
def wsL_acts_r1 : List Cond := [Cond.methodLink RL 120 yX4_move, Cond.instanceMethod yX4_move, Cond.selects RX4 yX4_move yX4_move, Cond.initialized RX4, Cond.code yX4_move cX4_move 4 none, Cond.fieldLink RX4 9 "Formationist" "xs" "[I", Cond.fieldLink RX4 13 "Formationist" "ys" "[I", Cond.methodLink RX4 101 yX4_requireMember, Cond.instanceMethod yX4_requireMember, Cond.selects RX4 yX4_requireMember yX4_requireMember, Cond.code yX4_requireMember cX4_requireMember 2 none, Cond.classLink RX4 201 "java/lang/IndexOutOfBoundsException", Cond.initialized "java/lang/IndexOutOfBoundsException", Cond.fieldLink RX4 47 "Formationist" "count" "I", Cond.methodLink RX4 90 yX4_requirePlace, Cond.static yX4_requirePlace, Cond.code yX4_requirePlace cX4_requirePlace 2 none, Cond.methodLink RX4 105 yX4_requireWithin, Cond.static yX4_requireWithin, Cond.code yX4_requireWithin cX4_requireWithin 3 none, Cond.classLink RX4 206 "java/lang/IllegalArgumentException", Cond.initialized "java/lang/IllegalArgumentException", Cond.methodLink RL 124 yX4_toggle, Cond.instanceMethod yX4_toggle]
def wsL_acts_r2 : List Cond := [Cond.selects RX4 yX4_toggle yX4_toggle, Cond.code yX4_toggle cX4_toggle 2 (some .boolean), Cond.fieldLink RX4 16 "Formationist" "ups" "[Z", Cond.methodLink RL 127 yX4_setPriority, Cond.instanceMethod yX4_setPriority, Cond.selects RX4 yX4_setPriority yX4_setPriority, Cond.code yX4_setPriority cX4_setPriority 4 (some .int), Cond.fieldLink RX4 20 "Formationist" "priorities" "[I", Cond.methodLink RL 130 yX4_setRange, Cond.instanceMethod yX4_setRange, Cond.selects RX4 yX4_setRange yX4_setRange, Cond.code yX4_setRange cX4_setRange 3 (some .int), Cond.fieldLink RX4 51 "Formationist" "range" "I", Cond.methodLink RL 9 yL_pair, Cond.static yL_pair, Cond.initialized RL, Cond.code yL_pair cL_pair 2 (some .int), Cond.methodLink RL 133 yX4_block, Cond.instanceMethod yX4_block, Cond.selects RX4 yX4_block yX4_block, Cond.code yX4_block cX4_block 3 (some .boolean), Cond.fieldLink RX4 43 "Formationist" "blocked" "LFormationist$Net;", Cond.methodLink RX4 109 yX4_requireUnlike, Cond.instanceMethod yX4_requireUnlike]
def wsL_acts_r3 : List Cond := [Cond.selects RX4 yX4_requireUnlike yX4_requireUnlike, Cond.code yX4_requireUnlike cX4_requireUnlike 3 none, Cond.instanceMethod yX1_joins, Cond.initialized RX1, Cond.selects RX1 yX1_joins yX1_joins, Cond.code yX1_joins cX1_joins 3 (some .boolean), Cond.fieldLink RX1 9 "Formationist$Net" "others" "[I", Cond.methodLink RX1 28 yX1_holds, Cond.static yX1_holds, Cond.code yX1_holds cX1_holds 2 (some .boolean), Cond.instanceMethod yX1_cut, Cond.selects RX1 yX1_cut yX1_cut, Cond.code yX1_cut cX1_cut 3 none, Cond.methodLink RX1 25 yX1_without, Cond.static yX1_without, Cond.code yX1_without cX1_without 2 (some .int), Cond.instanceMethod yX1_join, Cond.selects RX1 yX1_join yX1_join, Cond.code yX1_join cX1_join 3 none, Cond.methodLink RX1 21 yX1_with, Cond.static yX1_with, Cond.code yX1_with cX1_with 2 (some .int), Cond.methodLink RL 136 yX4_setEstimate, Cond.instanceMethod yX4_setEstimate]
def wsL_acts_r4 : List Cond := [Cond.selects RX4 yX4_setEstimate yX4_setEstimate, Cond.code yX4_setEstimate cX4_setEstimate 4 (some .int), Cond.fieldLink RX4 23 "Formationist" "estimates" "[I", Cond.methodLink RX4 155 yX4_requireValue, Cond.static yX4_requireValue, Cond.code yX4_requireValue cX4_requireValue 1 none, Cond.constant RX4 213 (-1000000), Cond.constant RX4 214 (1000000), Cond.methodLink RL 139 yX4_setSum, Cond.instanceMethod yX4_setSum, Cond.selects RX4 yX4_setSum yX4_setSum, Cond.code yX4_setSum cX4_setSum 4 (some .int), Cond.fieldLink RX4 26 "Formationist" "sums" "[I", Cond.methodLink RL 142 yX4_want, Cond.instanceMethod yX4_want, Cond.selects RX4 yX4_want yX4_want, Cond.code yX4_want cX4_want 5 (some .int), Cond.constant RX4 170 (8000000), Cond.fieldLink RX4 37 "Formationist" "wantedSquares" "[[I", Cond.methodLink RL 146 yL_agreed, Cond.static yL_agreed, Cond.code yL_agreed cL_agreed 10 (some .int), Cond.arrayClass .int, Cond.methodLink RL 19 yL_heard]
def wsL_acts_r5 : List Cond := [Cond.static yL_heard, Cond.code yL_heard cL_heard 6 (some .int), Cond.methodLink RL 15 yL_square, Cond.static yL_square, Cond.code yL_square cL_square 5 (some .int), Cond.methodLink RL 23 yL_ones, Cond.static yL_ones, Cond.code yL_ones cL_ones 3 (some .int), Cond.methodLink RL 149 yL_spread, Cond.static yL_spread, Cond.code yL_spread cL_spread 10 (some .int), Cond.methodLink RL 152 yL_settle, Cond.static yL_settle, Cond.code yL_settle cL_settle 9 none, Cond.arrayClass .long, Cond.methodLink RL 116 yL_moved, Cond.static yL_moved, Cond.code yL_moved cL_moved 7 (some .int), Cond.constantLong RL 106 (1000000), Cond.constantLong RL 108 (50), Cond.constantLong RL 110 (-50), Cond.constantLong RL 112 (1000), Cond.constantLong RL 114 (-1000), Cond.methodLink RL 156 yX4_agree]
def wsL_acts_r6 : List Cond := [Cond.instanceMethod yX4_agree, Cond.selects RX4 yX4_agree yX4_agree, Cond.code yX4_agree cX4_agree 3 (some .int), Cond.methodLink RX4 158 yX4_requireRounds, Cond.static yX4_requireRounds, Cond.code yX4_requireRounds cX4_requireRounds 1 none, Cond.methodLink RX4 125 yX4_drawNet, Cond.instanceMethod yX4_drawNet, Cond.selects RX4 yX4_drawNet yX4_drawNet, Cond.code yX4_drawNet cX4_drawNet 3 none, Cond.fieldLink RX4 54 "Formationist" "net" "LFormationist$Net;", Cond.instanceMethod yX1_clear, Cond.selects RX1 yX1_clear yX1_clear, Cond.code yX1_clear cX1_clear 1 none, Cond.methodLink RX1 15 yJ7_fill_53178, Cond.static yJ7_fill_53178, Cond.initialized RJ7, Cond.code yJ7_fill_53178 cJ7_fill_53178 4 none, Cond.methodLink RX4 122 yX4_hears, Cond.instanceMethod yX4_hears, Cond.selects RX4 yX4_hears yX4_hears, Cond.code yX4_hears cX4_hears 3 (some .boolean), Cond.methodLink RX4 215 yX4_squareBetween, Cond.instanceMethod yX4_squareBetween]
def wsL_acts_r7 : List Cond := [Cond.selects RX4 yX4_squareBetween yX4_squareBetween, Cond.code yX4_squareBetween cX4_squareBetween 5 (some .int), Cond.methodLink RX4 161 yX4_exchangeEstimates, Cond.instanceMethod yX4_exchangeEstimates, Cond.selects RX4 yX4_exchangeEstimates yX4_exchangeEstimates, Cond.code yX4_exchangeEstimates cX4_exchangeEstimates 4 none, Cond.fieldLink RX4 57 "Formationist" "changes" "[I", Cond.methodLink RX4 84 yJ7_fill_53178, Cond.methodLink RX4 224 yX4_flowBetween, Cond.instanceMethod yX4_flowBetween, Cond.selects RX4 yX4_flowBetween yX4_flowBetween, Cond.code yX4_flowBetween cX4_flowBetween 4 (some .int), Cond.methodLink RX4 231 Lib.Math.max.name, Cond.static Lib.Math.max.name, Cond.initialized "java/lang/Math", Cond.code Lib.Math.max.name Lib.Math.max.code 2 (some .int), Cond.instanceMethod yX1_degreeOf, Cond.selects RX1 yX1_degreeOf yX1_degreeOf, Cond.code yX1_degreeOf cX1_degreeOf 2 (some .int), Cond.methodLink RX1 32 yJ6_bitCount_0f7a4, Cond.static yJ6_bitCount_0f7a4, Cond.initialized RJ6, Cond.code yJ6_bitCount_0f7a4 cJ6_bitCount_0f7a4 1 (some .int), Cond.constant RJ6 265 (1431655765)]
def wsL_acts_r8 : List Cond := [Cond.constant RJ6 266 (858993459), Cond.constant RJ6 267 (252645135), Cond.methodLink RX4 227 yX4_addChanges, Cond.instanceMethod yX4_addChanges, Cond.selects RX4 yX4_addChanges yX4_addChanges, Cond.code yX4_addChanges cX4_addChanges 4 none, Cond.methodLink RX4 164 yX4_spanOfEstimates, Cond.instanceMethod yX4_spanOfEstimates, Cond.selects RX4 yX4_spanOfEstimates yX4_spanOfEstimates, Cond.code yX4_spanOfEstimates cX4_spanOfEstimates 4 (some .int), Cond.methodLink RX4 234 Lib.Math.min.name, Cond.static Lib.Math.min.name, Cond.code Lib.Math.min.name Lib.Math.min.code 2 (some .int), Cond.methodLink RL 159 yX4_spread, Cond.instanceMethod yX4_spread, Cond.selects RX4 yX4_spread yX4_spread, Cond.code yX4_spread cX4_spread 4 (some .int), Cond.methodLink RX4 167 yX4_handHalves, Cond.instanceMethod yX4_handHalves, Cond.selects RX4 yX4_handHalves yX4_handHalves, Cond.code yX4_handHalves cX4_handHalves 4 (some .int), Cond.fieldLink RX4 60 "Formationist" "moreChanges" "[I", Cond.fieldLink RX4 29 "Formationist" "weights" "[I", Cond.fieldLink RX4 32 "Formationist" "lastReceivers" "[I"]
def wsL_acts_r9 : List Cond := [Cond.methodLink RX4 237 yX4_nextReceiver, Cond.instanceMethod yX4_nextReceiver, Cond.selects RX4 yX4_nextReceiver yX4_nextReceiver, Cond.code yX4_nextReceiver cX4_nextReceiver 4 (some .int), Cond.methodLink RX4 240 yX4_handOver, Cond.static yX4_handOver, Cond.code yX4_handOver cX4_handOver 4 none, Cond.methodLink RL 161 yX4_settle, Cond.instanceMethod yX4_settle, Cond.selects RX4 yX4_settle yX4_settle, Cond.code yX4_settle cX4_settle 3 (some .int), Cond.methodLink RX4 180 yX4_stepTogether, Cond.instanceMethod yX4_stepTogether, Cond.selects RX4 yX4_stepTogether yX4_stepTogether, Cond.code yX4_stepTogether cX4_stepTogether 2 none, Cond.methodLink RX4 244 yX4_stepOf, Cond.instanceMethod yX4_stepOf, Cond.selects RX4 yX4_stepOf yX4_stepOf, Cond.code yX4_stepOf cX4_stepOf 8 (some .int), Cond.constantLong RX4 251 (1000000), Cond.constantLong RX4 253 (-50), Cond.constantLong RX4 255 (50), Cond.methodLink RX4 257 Lib.MathLoose.min_long.x, Cond.static Lib.MathLoose.min_long.x]
def wsL_acts_r10 : List Cond := [Cond.code Lib.MathLoose.min_long.x Lib.MathLoose.min_long.code 4 (some .long), Cond.methodLink RX4 260 Lib.MathLoose.max_long.x, Cond.static Lib.MathLoose.max_long.x, Cond.code Lib.MathLoose.max_long.x Lib.MathLoose.max_long.code 4 (some .long), Cond.methodLink RX4 171 yX4_excessOf, Cond.instanceMethod yX4_excessOf, Cond.selects RX4 yX4_excessOf yX4_excessOf, Cond.code yX4_excessOf cX4_excessOf 3 (some .int), Cond.methodLink RX4 248 yX4_keptOnPlane, Cond.static yX4_keptOnPlane, Cond.code yX4_keptOnPlane cX4_keptOnPlane 1 (some .int), Cond.methodLink RX4 183 yX4_error, Cond.instanceMethod yX4_error, Cond.selects RX4 yX4_error yX4_error, Cond.code yX4_error cX4_error 4 (some .int), Cond.methodLink RX4 175 Lib.Math.abs.name, Cond.static Lib.Math.abs.name, Cond.code Lib.Math.abs.name Lib.Math.abs.code 1 (some .int), Cond.methodLink RL 163 yL_error, Cond.static yL_error, Cond.code yL_error cL_error 7 (some .int)]
def wsL_acts : List Cond := .code yL_acts cL_acts 12 (some .boolean) :: ((wsL_acts_r1 ++ (wsL_acts_r2 ++ (wsL_acts_r3 ++ (wsL_acts_r4 ++ (wsL_acts_r5 ++ (wsL_acts_r6 ++ (wsL_acts_r7 ++ (wsL_acts_r8 ++ (wsL_acts_r9 ++ wsL_acts_r10))))))))) ++ wsX40 ++ wsX10 ++ (vx_atS RX4 205 "java/lang/IndexOutOfBoundsException" ["java/lang/RuntimeException", "java/lang/Exception"]).filter goodWord ++ (vx_atS RX4 210 "java/lang/IllegalArgumentException" ["java/lang/RuntimeException", "java/lang/Exception"]).filter goodWord)
def wsL_holds_r1 : List Cond := [Cond.classLink RL 39 RX4, Cond.instantiable RX4 18, Cond.initialized RX4, Cond.arrayClass .int, Cond.constant RL 171 (1000000), Cond.methodLink RL 167 yX4_init, Cond.instanceMethod yX4_init, Cond.code yX4_init cX4_init 2 none, Cond.methodLink RX4 1 objectInit, Cond.instanceMethod objectInit, Cond.code objectInit ⟨#[0xb1]⟩ 1 none, Cond.fieldLink RX4 9 "Formationist" "xs" "[I", Cond.fieldLink RX4 13 "Formationist" "ys" "[I", Cond.arrayClass .boolean, Cond.fieldLink RX4 16 "Formationist" "ups" "[Z", Cond.fieldLink RX4 20 "Formationist" "priorities" "[I", Cond.fieldLink RX4 23 "Formationist" "estimates" "[I", Cond.fieldLink RX4 26 "Formationist" "sums" "[I", Cond.fieldLink RX4 29 "Formationist" "weights" "[I", Cond.fieldLink RX4 32 "Formationist" "lastReceivers" "[I", Cond.classLink RX4 35 "[[I", Cond.fieldLink RX4 37 "Formationist" "wantedSquares" "[[I", Cond.classLink RX4 40 RX1, Cond.instantiable RX1 1]
def wsL_holds_r2 : List Cond := [Cond.initialized RX1, Cond.fieldLink RX4 43 "Formationist" "blocked" "LFormationist$Net;", Cond.fieldLink RX4 47 "Formationist" "count" "I", Cond.fieldLink RX4 51 "Formationist" "range" "I", Cond.fieldLink RX4 54 "Formationist" "net" "LFormationist$Net;", Cond.fieldLink RX4 57 "Formationist" "changes" "[I", Cond.fieldLink RX4 60 "Formationist" "moreChanges" "[I", Cond.classLink RX4 63 RX2, Cond.instantiable RX2 3, Cond.initialized RX2, Cond.fieldLink RX4 66 "Formationist" "pebbleGame" "LFormationist$PebbleGame;", Cond.classLink RX4 70 RX0, Cond.instantiable RX0 1, Cond.initialized RX0, Cond.fieldLink RX4 73 "Formationist" "linkCounts" "LFormationist$LinkCounts;", Cond.classLink RX4 77 RX3, Cond.instantiable RX3 1, Cond.initialized RX3, Cond.fieldLink RX4 80 "Formationist" "treeMatrix" "LFormationist$TreeMatrix;", Cond.instanceMethod yX1_init, Cond.code yX1_init cX1_init 1 none, Cond.methodLink RX1 3 objectInit, Cond.fieldLink RX1 9 "Formationist$Net" "others" "[I", Cond.instanceMethod yX2_init]
def wsL_holds_r3 : List Cond := [Cond.code yX2_init cX2_init 1 none, Cond.methodLink RX2 3 objectInit, Cond.fieldLink RX2 9 "Formationist$PebbleGame" "pebbles" "[I", Cond.fieldLink RX2 15 "Formationist$PebbleGame" "arcs" "[I", Cond.fieldLink RX2 18 "Formationist$PebbleGame" "cameFrom" "[I", Cond.instanceMethod yX0_init, Cond.code yX0_init cX0_init 1 none, Cond.methodLink RX0 3 objectInit, Cond.fieldLink RX0 11 "Formationist$LinkCounts" "linksWithin" "[I", Cond.instanceMethod yX3_init, Cond.code yX3_init cX3_init 1 none, Cond.methodLink RX3 3 objectInit, Cond.classLink RX3 9 "[[J", Cond.arrayClass .long, Cond.fieldLink RX3 11 "Formationist$TreeMatrix" "rows" "[[J", Cond.methodLink RX4 84 yJ7_fill_53178, Cond.static yJ7_fill_53178, Cond.initialized RJ7, Cond.code yJ7_fill_53178 cJ7_fill_53178 4 none, Cond.methodLink RL 156 yX4_agree, Cond.instanceMethod yX4_agree, Cond.selects RX4 yX4_agree yX4_agree, Cond.code yX4_agree cX4_agree 3 (some .int), Cond.methodLink RX4 158 yX4_requireRounds]
def wsL_holds_r4 : List Cond := [Cond.static yX4_requireRounds, Cond.code yX4_requireRounds cX4_requireRounds 1 none, Cond.methodLink RX4 105 yX4_requireWithin, Cond.static yX4_requireWithin, Cond.code yX4_requireWithin cX4_requireWithin 3 none, Cond.classLink RX4 206 "java/lang/IllegalArgumentException", Cond.initialized "java/lang/IllegalArgumentException", Cond.methodLink RX4 125 yX4_drawNet, Cond.instanceMethod yX4_drawNet, Cond.selects RX4 yX4_drawNet yX4_drawNet, Cond.code yX4_drawNet cX4_drawNet 3 none, Cond.instanceMethod yX1_clear, Cond.selects RX1 yX1_clear yX1_clear, Cond.code yX1_clear cX1_clear 1 none, Cond.methodLink RX1 15 yJ7_fill_53178, Cond.methodLink RX4 122 yX4_hears, Cond.instanceMethod yX4_hears, Cond.selects RX4 yX4_hears yX4_hears, Cond.code yX4_hears cX4_hears 3 (some .boolean), Cond.instanceMethod yX1_joins, Cond.selects RX1 yX1_joins yX1_joins, Cond.code yX1_joins cX1_joins 3 (some .boolean), Cond.methodLink RX1 28 yX1_holds, Cond.static yX1_holds]
def wsL_holds_r5 : List Cond := [Cond.code yX1_holds cX1_holds 2 (some .boolean), Cond.methodLink RX4 215 yX4_squareBetween, Cond.instanceMethod yX4_squareBetween, Cond.selects RX4 yX4_squareBetween yX4_squareBetween, Cond.code yX4_squareBetween cX4_squareBetween 5 (some .int), Cond.instanceMethod yX1_join, Cond.selects RX1 yX1_join yX1_join, Cond.code yX1_join cX1_join 3 none, Cond.methodLink RX1 21 yX1_with, Cond.static yX1_with, Cond.code yX1_with cX1_with 2 (some .int), Cond.methodLink RX4 161 yX4_exchangeEstimates, Cond.instanceMethod yX4_exchangeEstimates, Cond.selects RX4 yX4_exchangeEstimates yX4_exchangeEstimates, Cond.code yX4_exchangeEstimates cX4_exchangeEstimates 4 none, Cond.methodLink RX4 224 yX4_flowBetween, Cond.instanceMethod yX4_flowBetween, Cond.selects RX4 yX4_flowBetween yX4_flowBetween, Cond.code yX4_flowBetween cX4_flowBetween 4 (some .int), Cond.methodLink RX4 231 Lib.Math.max.name, Cond.static Lib.Math.max.name, Cond.initialized "java/lang/Math", Cond.code Lib.Math.max.name Lib.Math.max.code 2 (some .int), Cond.instanceMethod yX1_degreeOf]
def wsL_holds_r6 : List Cond := [Cond.selects RX1 yX1_degreeOf yX1_degreeOf, Cond.code yX1_degreeOf cX1_degreeOf 2 (some .int), Cond.methodLink RX1 32 yJ6_bitCount_0f7a4, Cond.static yJ6_bitCount_0f7a4, Cond.initialized RJ6, Cond.code yJ6_bitCount_0f7a4 cJ6_bitCount_0f7a4 1 (some .int), Cond.constant RJ6 265 (1431655765), Cond.constant RJ6 266 (858993459), Cond.constant RJ6 267 (252645135), Cond.methodLink RX4 227 yX4_addChanges, Cond.instanceMethod yX4_addChanges, Cond.selects RX4 yX4_addChanges yX4_addChanges, Cond.code yX4_addChanges cX4_addChanges 4 none, Cond.methodLink RX4 164 yX4_spanOfEstimates, Cond.instanceMethod yX4_spanOfEstimates, Cond.selects RX4 yX4_spanOfEstimates yX4_spanOfEstimates, Cond.code yX4_spanOfEstimates cX4_spanOfEstimates 4 (some .int), Cond.methodLink RX4 234 Lib.Math.min.name, Cond.static Lib.Math.min.name, Cond.code Lib.Math.min.name Lib.Math.min.code 2 (some .int), Cond.methodLink RL 159 yX4_spread, Cond.instanceMethod yX4_spread, Cond.selects RX4 yX4_spread yX4_spread, Cond.code yX4_spread cX4_spread 4 (some .int)]
def wsL_holds_r7 : List Cond := [Cond.methodLink RX4 167 yX4_handHalves, Cond.instanceMethod yX4_handHalves, Cond.selects RX4 yX4_handHalves yX4_handHalves, Cond.code yX4_handHalves cX4_handHalves 4 (some .int), Cond.methodLink RX4 237 yX4_nextReceiver, Cond.instanceMethod yX4_nextReceiver, Cond.selects RX4 yX4_nextReceiver yX4_nextReceiver, Cond.code yX4_nextReceiver cX4_nextReceiver 4 (some .int), Cond.methodLink RX4 240 yX4_handOver, Cond.static yX4_handOver, Cond.code yX4_handOver cX4_handOver 4 none, Cond.methodLink RL 86 yX4_trees, Cond.instanceMethod yX4_trees, Cond.selects RX4 yX4_trees yX4_trees, Cond.code yX4_trees cX4_trees 1 (some .long), Cond.methodLink RX4 148 yX4_upSet, Cond.instanceMethod yX4_upSet, Cond.selects RX4 yX4_upSet yX4_upSet, Cond.code yX4_upSet cX4_upSet 3 (some .int), Cond.instanceMethod yX3_treesOf, Cond.selects RX3 yX3_treesOf yX3_treesOf, Cond.code yX3_treesOf cX3_treesOf 4 (some .long), Cond.methodLink RX3 16 yJ6_numberOfTrailingZeros_0f7a4, Cond.static yJ6_numberOfTrailingZeros_0f7a4]
def wsL_holds_r8 : List Cond := [Cond.code yJ6_numberOfTrailingZeros_0f7a4 cJ6_numberOfTrailingZeros_0f7a4 2 (some .int), Cond.constant RJ6 264 (65536), Cond.static yX1_without, Cond.code yX1_without cX1_without 2 (some .int), Cond.methodLink RX3 28 yX3_fill, Cond.instanceMethod yX3_fill, Cond.selects RX3 yX3_fill yX3_fill, Cond.code yX3_fill cX3_fill 5 (some .int), Cond.methodLink RX3 40 yX3_fillRow, Cond.static yX3_fillRow, Cond.code yX3_fillRow cX3_fillRow 6 none, Cond.constantLong RX3 47 (-1), Cond.methodLink RX3 32 yX3_determinant, Cond.instanceMethod yX3_determinant, Cond.selects RX3 yX3_determinant yX3_determinant, Cond.code yX3_determinant cX3_determinant 11 (some .long), Cond.methodLink RL 98 yX4_isRigid, Cond.instanceMethod yX4_isRigid, Cond.selects RX4 yX4_isRigid yX4_isRigid, Cond.code yX4_isRigid cX4_isRigid 2 (some .boolean), Cond.methodLink RX4 191 yJ6_bitCount_0f7a4, Cond.methodLink RX4 136 yX4_countGroups, Cond.instanceMethod yX4_countGroups, Cond.selects RX4 yX4_countGroups yX4_countGroups]
def wsL_holds_r9 : List Cond := [Cond.code yX4_countGroups cX4_countGroups 4 (some .int), Cond.instanceMethod yX1_groupOf, Cond.selects RX1 yX1_groupOf yX1_groupOf, Cond.code yX1_groupOf cX1_groupOf 6 (some .int), Cond.instanceMethod yX2_rankOf, Cond.selects RX2 yX2_rankOf yX2_rankOf, Cond.code yX2_rankOf cX2_rankOf 5 (some .int), Cond.methodLink RX2 21 yJ7_fill_53178, Cond.methodLink RX2 33 yX2_gatherPebbles, Cond.instanceMethod yX2_gatherPebbles, Cond.selects RX2 yX2_gatherPebbles yX2_gatherPebbles, Cond.code yX2_gatherPebbles cX2_gatherPebbles 4 (some .boolean), Cond.methodLink RX2 40 yX2_fetchPebble, Cond.instanceMethod yX2_fetchPebble, Cond.selects RX2 yX2_fetchPebble yX2_fetchPebble, Cond.code yX2_fetchPebble cX2_fetchPebble 4 (some .boolean), Cond.methodLink RX2 43 yX2_findPebble, Cond.instanceMethod yX2_findPebble, Cond.selects RX2 yX2_findPebble yX2_findPebble, Cond.code yX2_findPebble cX2_findPebble 9 (some .int), Cond.methodLink RX2 53 yX2_noteWay, Cond.instanceMethod yX2_noteWay, Cond.selects RX2 yX2_noteWay yX2_noteWay, Cond.code yX2_noteWay cX2_noteWay 4 none]
def wsL_holds_r10 : List Cond := [Cond.methodLink RX2 57 yX2_holderAmong, Cond.instanceMethod yX2_holderAmong, Cond.selects RX2 yX2_holderAmong yX2_holderAmong, Cond.code yX2_holderAmong cX2_holderAmong 3 (some .int), Cond.methodLink RX2 46 yX2_turnArcs, Cond.instanceMethod yX2_turnArcs, Cond.selects RX2 yX2_turnArcs yX2_turnArcs, Cond.code yX2_turnArcs cX2_turnArcs 5 none, Cond.methodLink RL 168 yL_from, Cond.static yL_from, Cond.initialized RL, Cond.code yL_from cL_from 4 (some .int), Cond.constant RL 7 (110969), Cond.constant RL 8 (2147483647), Cond.methodLink RL 172 yX4_addMember, Cond.instanceMethod yX4_addMember, Cond.selects RX4 yX4_addMember yX4_addMember, Cond.code yX4_addMember cX4_addMember 4 (some .int), Cond.classLink RX4 94 "java/lang/IllegalStateException", Cond.initialized "java/lang/IllegalStateException", Cond.methodLink RX4 90 yX4_requirePlace, Cond.static yX4_requirePlace, Cond.code yX4_requirePlace cX4_requirePlace 2 none, Cond.methodLink RL 175 yL_acts]
def wsL_holds_r11 : List Cond := [Cond.static yL_acts, Cond.code yL_acts cL_acts 12 (some .boolean), Cond.methodLink RL 120 yX4_move, Cond.instanceMethod yX4_move, Cond.selects RX4 yX4_move yX4_move, Cond.code yX4_move cX4_move 4 none, Cond.methodLink RX4 101 yX4_requireMember, Cond.instanceMethod yX4_requireMember, Cond.selects RX4 yX4_requireMember yX4_requireMember, Cond.code yX4_requireMember cX4_requireMember 2 none, Cond.classLink RX4 201 "java/lang/IndexOutOfBoundsException", Cond.initialized "java/lang/IndexOutOfBoundsException", Cond.methodLink RL 124 yX4_toggle, Cond.instanceMethod yX4_toggle, Cond.selects RX4 yX4_toggle yX4_toggle, Cond.code yX4_toggle cX4_toggle 2 (some .boolean), Cond.methodLink RL 127 yX4_setPriority, Cond.instanceMethod yX4_setPriority, Cond.selects RX4 yX4_setPriority yX4_setPriority, Cond.code yX4_setPriority cX4_setPriority 4 (some .int), Cond.methodLink RL 130 yX4_setRange, Cond.instanceMethod yX4_setRange, Cond.selects RX4 yX4_setRange yX4_setRange, Cond.code yX4_setRange cX4_setRange 3 (some .int)]
def wsL_holds_r12 : List Cond := [Cond.methodLink RL 9 yL_pair, Cond.static yL_pair, Cond.code yL_pair cL_pair 2 (some .int), Cond.methodLink RL 133 yX4_block, Cond.instanceMethod yX4_block, Cond.selects RX4 yX4_block yX4_block, Cond.code yX4_block cX4_block 3 (some .boolean), Cond.methodLink RX4 109 yX4_requireUnlike, Cond.instanceMethod yX4_requireUnlike, Cond.selects RX4 yX4_requireUnlike yX4_requireUnlike, Cond.code yX4_requireUnlike cX4_requireUnlike 3 none, Cond.instanceMethod yX1_cut, Cond.selects RX1 yX1_cut yX1_cut, Cond.code yX1_cut cX1_cut 3 none, Cond.methodLink RX1 25 yX1_without, Cond.methodLink RL 136 yX4_setEstimate, Cond.instanceMethod yX4_setEstimate, Cond.selects RX4 yX4_setEstimate yX4_setEstimate, Cond.code yX4_setEstimate cX4_setEstimate 4 (some .int), Cond.methodLink RX4 155 yX4_requireValue, Cond.static yX4_requireValue, Cond.code yX4_requireValue cX4_requireValue 1 none, Cond.constant RX4 213 (-1000000), Cond.constant RX4 214 (1000000)]
def wsL_holds_r13 : List Cond := [Cond.methodLink RL 139 yX4_setSum, Cond.instanceMethod yX4_setSum, Cond.selects RX4 yX4_setSum yX4_setSum, Cond.code yX4_setSum cX4_setSum 4 (some .int), Cond.methodLink RL 142 yX4_want, Cond.instanceMethod yX4_want, Cond.selects RX4 yX4_want yX4_want, Cond.code yX4_want cX4_want 5 (some .int), Cond.constant RX4 170 (8000000), Cond.methodLink RL 146 yL_agreed, Cond.static yL_agreed, Cond.code yL_agreed cL_agreed 10 (some .int), Cond.methodLink RL 19 yL_heard, Cond.static yL_heard, Cond.code yL_heard cL_heard 6 (some .int), Cond.methodLink RL 15 yL_square, Cond.static yL_square, Cond.code yL_square cL_square 5 (some .int), Cond.methodLink RL 23 yL_ones, Cond.static yL_ones, Cond.code yL_ones cL_ones 3 (some .int), Cond.methodLink RL 149 yL_spread, Cond.static yL_spread, Cond.code yL_spread cL_spread 10 (some .int)]
def wsL_holds_r14 : List Cond := [Cond.methodLink RL 152 yL_settle, Cond.static yL_settle, Cond.code yL_settle cL_settle 9 none, Cond.methodLink RL 116 yL_moved, Cond.static yL_moved, Cond.code yL_moved cL_moved 7 (some .int), Cond.constantLong RL 106 (1000000), Cond.constantLong RL 108 (50), Cond.constantLong RL 110 (-50), Cond.constantLong RL 112 (1000), Cond.constantLong RL 114 (-1000), Cond.methodLink RL 161 yX4_settle, Cond.instanceMethod yX4_settle, Cond.selects RX4 yX4_settle yX4_settle, Cond.code yX4_settle cX4_settle 3 (some .int), Cond.methodLink RX4 180 yX4_stepTogether, Cond.instanceMethod yX4_stepTogether, Cond.selects RX4 yX4_stepTogether yX4_stepTogether, Cond.code yX4_stepTogether cX4_stepTogether 2 none, Cond.methodLink RX4 244 yX4_stepOf, Cond.instanceMethod yX4_stepOf, Cond.selects RX4 yX4_stepOf yX4_stepOf, Cond.code yX4_stepOf cX4_stepOf 8 (some .int), Cond.constantLong RX4 251 (1000000)]
def wsL_holds_r15 : List Cond := [Cond.constantLong RX4 253 (-50), Cond.constantLong RX4 255 (50), Cond.methodLink RX4 257 Lib.MathLoose.min_long.x, Cond.static Lib.MathLoose.min_long.x, Cond.code Lib.MathLoose.min_long.x Lib.MathLoose.min_long.code 4 (some .long), Cond.methodLink RX4 260 Lib.MathLoose.max_long.x, Cond.static Lib.MathLoose.max_long.x, Cond.code Lib.MathLoose.max_long.x Lib.MathLoose.max_long.code 4 (some .long), Cond.methodLink RX4 171 yX4_excessOf, Cond.instanceMethod yX4_excessOf, Cond.selects RX4 yX4_excessOf yX4_excessOf, Cond.code yX4_excessOf cX4_excessOf 3 (some .int), Cond.methodLink RX4 248 yX4_keptOnPlane, Cond.static yX4_keptOnPlane, Cond.code yX4_keptOnPlane cX4_keptOnPlane 1 (some .int), Cond.methodLink RX4 183 yX4_error, Cond.instanceMethod yX4_error, Cond.selects RX4 yX4_error yX4_error, Cond.code yX4_error cX4_error 4 (some .int), Cond.methodLink RX4 175 Lib.Math.abs.name, Cond.static Lib.Math.abs.name, Cond.code Lib.Math.abs.name Lib.Math.abs.code 1 (some .int), Cond.methodLink RL 163 yL_error, Cond.static yL_error]
def wsL_holds_r16 : List Cond := [Cond.code yL_error cL_error 7 (some .int), Cond.methodLink RL 179 yL_isLinked, Cond.static yL_isLinked, Cond.code yL_isLinked cL_isLinked 11 (some .boolean), Cond.methodLink RL 34 yL_links, Cond.static yL_links, Cond.code yL_links cL_links 5 (some .int), Cond.methodLink RL 38 yX4_links, Cond.instanceMethod yX4_links, Cond.selects RX4 yX4_links yX4_links, Cond.code yX4_links cX4_links 1 (some .int), Cond.instanceMethod yX1_pairCount, Cond.selects RX1 yX1_pairCount yX1_pairCount, Cond.code yX1_pairCount cX1_pairCount 3 (some .int), Cond.methodLink RX1 38 yX1_degreeOf, Cond.methodLink RL 43 yX4_members, Cond.instanceMethod yX4_members, Cond.selects RX4 yX4_members yX4_members, Cond.code yX4_members cX4_members 1 (some .int), Cond.methodLink RL 31 yL_group, Cond.static yL_group, Cond.code yL_group cL_group 6 (some .int), Cond.methodLink RL 46 yX4_areLinked, Cond.instanceMethod yX4_areLinked]
def wsL_holds_r17 : List Cond := [Cond.selects RX4 yX4_areLinked yX4_areLinked, Cond.code yX4_areLinked cX4_areLinked 3 (some .boolean), Cond.methodLink RL 50 yX4_degree, Cond.instanceMethod yX4_degree, Cond.selects RX4 yX4_degree yX4_degree, Cond.code yX4_degree cX4_degree 2 (some .int), Cond.methodLink RL 53 yX4_leader, Cond.instanceMethod yX4_leader, Cond.selects RX4 yX4_leader yX4_leader, Cond.code yX4_leader cX4_leader 5 (some .int), Cond.methodLink RX4 145 yX4_outranks, Cond.instanceMethod yX4_outranks, Cond.selects RX4 yX4_outranks yX4_outranks, Cond.code yX4_outranks cX4_outranks 3 (some .boolean), Cond.methodLink RL 56 yX4_xOf, Cond.instanceMethod yX4_xOf, Cond.selects RX4 yX4_xOf yX4_xOf, Cond.code yX4_xOf cX4_xOf 2 (some .int), Cond.methodLink RL 59 yX4_yOf, Cond.instanceMethod yX4_yOf, Cond.selects RX4 yX4_yOf yX4_yOf, Cond.code yX4_yOf cX4_yOf 2 (some .int), Cond.methodLink RL 62 yX4_estimate, Cond.instanceMethod yX4_estimate]
def wsL_holds_r18 : List Cond := [Cond.selects RX4 yX4_estimate yX4_estimate, Cond.code yX4_estimate cX4_estimate 2 (some .int), Cond.methodLink RL 65 yX4_sum, Cond.instanceMethod yX4_sum, Cond.selects RX4 yX4_sum yX4_sum, Cond.code yX4_sum cX4_sum 2 (some .int), Cond.methodLink RL 68 yX4_weight, Cond.instanceMethod yX4_weight, Cond.selects RX4 yX4_weight yX4_weight, Cond.code yX4_weight cX4_weight 2 (some .int), Cond.methodLink RL 71 yX4_groups, Cond.instanceMethod yX4_groups, Cond.selects RX4 yX4_groups yX4_groups, Cond.code yX4_groups cX4_groups 1 (some .int), Cond.methodLink RL 183 yX4_error, Cond.methodLink RL 185 yL_isFigure, Cond.static yL_isFigure, Cond.code yL_isFigure cL_isFigure 13 (some .boolean), Cond.methodLink RL 79 yL_rank, Cond.static yL_rank, Cond.code yL_rank cL_rank 3 (some .int), Cond.methodLink RL 27 yL_isFree, Cond.static yL_isFree, Cond.code yL_isFree cL_isFree 4 (some .boolean)]
def wsL_holds_r19 : List Cond := [Cond.methodLink RL 82 yL_up, Cond.static yL_up, Cond.code yL_up cL_up 3 (some .int), Cond.methodLink RL 90 yL_trees, Cond.static yL_trees, Cond.code yL_trees cL_trees 6 (some .long), Cond.methodLink RL 93 yX4_rank, Cond.instanceMethod yX4_rank, Cond.selects RX4 yX4_rank yX4_rank, Cond.code yX4_rank cX4_rank 1 (some .int), Cond.methodLink RL 95 yX4_rankByCounting, Cond.instanceMethod yX4_rankByCounting, Cond.selects RX4 yX4_rankByCounting yX4_rankByCounting, Cond.code yX4_rankByCounting cX4_rankByCounting 1 (some .int), Cond.instanceMethod yX0_rankOf, Cond.selects RX0 yX0_rankOf yX0_rankOf, Cond.code yX0_rankOf cX0_rankOf 6 (some .int), Cond.methodLink RX0 15 yJ7_fill_53178, Cond.methodLink RX0 31 yX0_leavesFree, Cond.instanceMethod yX0_leavesFree, Cond.selects RX0 yX0_leavesFree yX0_leavesFree, Cond.code yX0_leavesFree cX0_leavesFree 4 (some .boolean), Cond.methodLink RX0 39 yJ6_bitCount_0f7a4, Cond.methodLink RX0 35 yX0_keepLink]
def wsL_holds_r20 : List Cond := [Cond.instanceMethod yX0_keepLink, Cond.selects RX0 yX0_keepLink yX0_keepLink, Cond.code yX0_keepLink cX0_keepLink 3 none, Cond.methodLink RL 102 yL_spare, Cond.static yL_spare, Cond.codeWith yL_spare cL_spare 4 (some .int) [(0, 14, 15, 77)], Cond.classLink RL 77 "java/util/NoSuchElementException", Cond.methodLink RL 74 yX4_isSpare, Cond.instanceMethod yX4_isSpare, Cond.selects RX4 yX4_isSpare yX4_isSpare, Cond.code yX4_isSpare cX4_isSpare 4 (some .boolean), Cond.classLink RX4 196 "java/util/NoSuchElementException", Cond.initialized "java/util/NoSuchElementException"]
def wsL_holds : List Cond := .code yL_holds cL_holds 10 (some .boolean) :: ((wsL_holds_r1 ++ (wsL_holds_r2 ++ (wsL_holds_r3 ++ (wsL_holds_r4 ++ (wsL_holds_r5 ++ (wsL_holds_r6 ++ (wsL_holds_r7 ++ (wsL_holds_r8 ++ (wsL_holds_r9 ++ (wsL_holds_r10 ++ (wsL_holds_r11 ++ (wsL_holds_r12 ++ (wsL_holds_r13 ++ (wsL_holds_r14 ++ (wsL_holds_r15 ++ (wsL_holds_r16 ++ (wsL_holds_r17 ++ (wsL_holds_r18 ++ (wsL_holds_r19 ++ wsL_holds_r20))))))))))))))))))) ++ wsX40 ++ wsX10 ++ wsX20 ++ wsX00 ++ wsX30 ++ (vx_atS RX4 210 "java/lang/IllegalArgumentException" ["java/lang/RuntimeException", "java/lang/Exception"]).filter goodWord ++ (vx_atS RX4 98 "java/lang/IllegalStateException" ["java/lang/RuntimeException", "java/lang/Exception"]).filter goodWord ++ (vx_atS RX4 205 "java/lang/IndexOutOfBoundsException" ["java/lang/RuntimeException", "java/lang/Exception"]).filter goodWord ++ fx_at200.filter goodWord)
def wsL_isHeld_r1 : List Cond := [Cond.classLink RL 193 "java/lang/IndexOutOfBoundsException", Cond.classLink RL 195 "java/lang/IllegalArgumentException", Cond.classLink RL 197 "java/lang/IllegalStateException", Cond.methodLink RL 189 yL_holds, Cond.static yL_holds, Cond.initialized RL, Cond.code yL_holds cL_holds 10 (some .boolean), Cond.classLink RL 39 RX4, Cond.instantiable RX4 18, Cond.initialized RX4, Cond.arrayClass .int, Cond.constant RL 171 (1000000), Cond.methodLink RL 167 yX4_init, Cond.instanceMethod yX4_init, Cond.code yX4_init cX4_init 2 none, Cond.methodLink RX4 1 objectInit, Cond.instanceMethod objectInit, Cond.code objectInit ⟨#[0xb1]⟩ 1 none, Cond.fieldLink RX4 9 "Formationist" "xs" "[I", Cond.fieldLink RX4 13 "Formationist" "ys" "[I", Cond.arrayClass .boolean, Cond.fieldLink RX4 16 "Formationist" "ups" "[Z", Cond.fieldLink RX4 20 "Formationist" "priorities" "[I", Cond.fieldLink RX4 23 "Formationist" "estimates" "[I"]
def wsL_isHeld_r2 : List Cond := [Cond.fieldLink RX4 26 "Formationist" "sums" "[I", Cond.fieldLink RX4 29 "Formationist" "weights" "[I", Cond.fieldLink RX4 32 "Formationist" "lastReceivers" "[I", Cond.classLink RX4 35 "[[I", Cond.fieldLink RX4 37 "Formationist" "wantedSquares" "[[I", Cond.classLink RX4 40 RX1, Cond.instantiable RX1 1, Cond.initialized RX1, Cond.fieldLink RX4 43 "Formationist" "blocked" "LFormationist$Net;", Cond.fieldLink RX4 47 "Formationist" "count" "I", Cond.fieldLink RX4 51 "Formationist" "range" "I", Cond.fieldLink RX4 54 "Formationist" "net" "LFormationist$Net;", Cond.fieldLink RX4 57 "Formationist" "changes" "[I", Cond.fieldLink RX4 60 "Formationist" "moreChanges" "[I", Cond.classLink RX4 63 RX2, Cond.instantiable RX2 3, Cond.initialized RX2, Cond.fieldLink RX4 66 "Formationist" "pebbleGame" "LFormationist$PebbleGame;", Cond.classLink RX4 70 RX0, Cond.instantiable RX0 1, Cond.initialized RX0, Cond.fieldLink RX4 73 "Formationist" "linkCounts" "LFormationist$LinkCounts;", Cond.classLink RX4 77 RX3, Cond.instantiable RX3 1]
def wsL_isHeld_r3 : List Cond := [Cond.initialized RX3, Cond.fieldLink RX4 80 "Formationist" "treeMatrix" "LFormationist$TreeMatrix;", Cond.instanceMethod yX1_init, Cond.code yX1_init cX1_init 1 none, Cond.methodLink RX1 3 objectInit, Cond.fieldLink RX1 9 "Formationist$Net" "others" "[I", Cond.instanceMethod yX2_init, Cond.code yX2_init cX2_init 1 none, Cond.methodLink RX2 3 objectInit, Cond.fieldLink RX2 9 "Formationist$PebbleGame" "pebbles" "[I", Cond.fieldLink RX2 15 "Formationist$PebbleGame" "arcs" "[I", Cond.fieldLink RX2 18 "Formationist$PebbleGame" "cameFrom" "[I", Cond.instanceMethod yX0_init, Cond.code yX0_init cX0_init 1 none, Cond.methodLink RX0 3 objectInit, Cond.fieldLink RX0 11 "Formationist$LinkCounts" "linksWithin" "[I", Cond.instanceMethod yX3_init, Cond.code yX3_init cX3_init 1 none, Cond.methodLink RX3 3 objectInit, Cond.classLink RX3 9 "[[J", Cond.arrayClass .long, Cond.fieldLink RX3 11 "Formationist$TreeMatrix" "rows" "[[J", Cond.methodLink RX4 84 yJ7_fill_53178, Cond.static yJ7_fill_53178]
def wsL_isHeld_r4 : List Cond := [Cond.initialized RJ7, Cond.code yJ7_fill_53178 cJ7_fill_53178 4 none, Cond.methodLink RL 156 yX4_agree, Cond.instanceMethod yX4_agree, Cond.selects RX4 yX4_agree yX4_agree, Cond.code yX4_agree cX4_agree 3 (some .int), Cond.methodLink RX4 158 yX4_requireRounds, Cond.static yX4_requireRounds, Cond.code yX4_requireRounds cX4_requireRounds 1 none, Cond.methodLink RX4 105 yX4_requireWithin, Cond.static yX4_requireWithin, Cond.code yX4_requireWithin cX4_requireWithin 3 none, Cond.classLink RX4 206 "java/lang/IllegalArgumentException", Cond.initialized "java/lang/IllegalArgumentException", Cond.methodLink RX4 125 yX4_drawNet, Cond.instanceMethod yX4_drawNet, Cond.selects RX4 yX4_drawNet yX4_drawNet, Cond.code yX4_drawNet cX4_drawNet 3 none, Cond.instanceMethod yX1_clear, Cond.selects RX1 yX1_clear yX1_clear, Cond.code yX1_clear cX1_clear 1 none, Cond.methodLink RX1 15 yJ7_fill_53178, Cond.methodLink RX4 122 yX4_hears, Cond.instanceMethod yX4_hears]
def wsL_isHeld_r5 : List Cond := [Cond.selects RX4 yX4_hears yX4_hears, Cond.code yX4_hears cX4_hears 3 (some .boolean), Cond.instanceMethod yX1_joins, Cond.selects RX1 yX1_joins yX1_joins, Cond.code yX1_joins cX1_joins 3 (some .boolean), Cond.methodLink RX1 28 yX1_holds, Cond.static yX1_holds, Cond.code yX1_holds cX1_holds 2 (some .boolean), Cond.methodLink RX4 215 yX4_squareBetween, Cond.instanceMethod yX4_squareBetween, Cond.selects RX4 yX4_squareBetween yX4_squareBetween, Cond.code yX4_squareBetween cX4_squareBetween 5 (some .int), Cond.instanceMethod yX1_join, Cond.selects RX1 yX1_join yX1_join, Cond.code yX1_join cX1_join 3 none, Cond.methodLink RX1 21 yX1_with, Cond.static yX1_with, Cond.code yX1_with cX1_with 2 (some .int), Cond.methodLink RX4 161 yX4_exchangeEstimates, Cond.instanceMethod yX4_exchangeEstimates, Cond.selects RX4 yX4_exchangeEstimates yX4_exchangeEstimates, Cond.code yX4_exchangeEstimates cX4_exchangeEstimates 4 none, Cond.methodLink RX4 224 yX4_flowBetween, Cond.instanceMethod yX4_flowBetween]
def wsL_isHeld_r6 : List Cond := [Cond.selects RX4 yX4_flowBetween yX4_flowBetween, Cond.code yX4_flowBetween cX4_flowBetween 4 (some .int), Cond.methodLink RX4 231 Lib.Math.max.name, Cond.static Lib.Math.max.name, Cond.initialized "java/lang/Math", Cond.code Lib.Math.max.name Lib.Math.max.code 2 (some .int), Cond.instanceMethod yX1_degreeOf, Cond.selects RX1 yX1_degreeOf yX1_degreeOf, Cond.code yX1_degreeOf cX1_degreeOf 2 (some .int), Cond.methodLink RX1 32 yJ6_bitCount_0f7a4, Cond.static yJ6_bitCount_0f7a4, Cond.initialized RJ6, Cond.code yJ6_bitCount_0f7a4 cJ6_bitCount_0f7a4 1 (some .int), Cond.constant RJ6 265 (1431655765), Cond.constant RJ6 266 (858993459), Cond.constant RJ6 267 (252645135), Cond.methodLink RX4 227 yX4_addChanges, Cond.instanceMethod yX4_addChanges, Cond.selects RX4 yX4_addChanges yX4_addChanges, Cond.code yX4_addChanges cX4_addChanges 4 none, Cond.methodLink RX4 164 yX4_spanOfEstimates, Cond.instanceMethod yX4_spanOfEstimates, Cond.selects RX4 yX4_spanOfEstimates yX4_spanOfEstimates, Cond.code yX4_spanOfEstimates cX4_spanOfEstimates 4 (some .int)]
def wsL_isHeld_r7 : List Cond := [Cond.methodLink RX4 234 Lib.Math.min.name, Cond.static Lib.Math.min.name, Cond.code Lib.Math.min.name Lib.Math.min.code 2 (some .int), Cond.methodLink RL 159 yX4_spread, Cond.instanceMethod yX4_spread, Cond.selects RX4 yX4_spread yX4_spread, Cond.code yX4_spread cX4_spread 4 (some .int), Cond.methodLink RX4 167 yX4_handHalves, Cond.instanceMethod yX4_handHalves, Cond.selects RX4 yX4_handHalves yX4_handHalves, Cond.code yX4_handHalves cX4_handHalves 4 (some .int), Cond.methodLink RX4 237 yX4_nextReceiver, Cond.instanceMethod yX4_nextReceiver, Cond.selects RX4 yX4_nextReceiver yX4_nextReceiver, Cond.code yX4_nextReceiver cX4_nextReceiver 4 (some .int), Cond.methodLink RX4 240 yX4_handOver, Cond.static yX4_handOver, Cond.code yX4_handOver cX4_handOver 4 none, Cond.methodLink RL 86 yX4_trees, Cond.instanceMethod yX4_trees, Cond.selects RX4 yX4_trees yX4_trees, Cond.code yX4_trees cX4_trees 1 (some .long), Cond.methodLink RX4 148 yX4_upSet, Cond.instanceMethod yX4_upSet]
def wsL_isHeld_r8 : List Cond := [Cond.selects RX4 yX4_upSet yX4_upSet, Cond.code yX4_upSet cX4_upSet 3 (some .int), Cond.instanceMethod yX3_treesOf, Cond.selects RX3 yX3_treesOf yX3_treesOf, Cond.code yX3_treesOf cX3_treesOf 4 (some .long), Cond.methodLink RX3 16 yJ6_numberOfTrailingZeros_0f7a4, Cond.static yJ6_numberOfTrailingZeros_0f7a4, Cond.code yJ6_numberOfTrailingZeros_0f7a4 cJ6_numberOfTrailingZeros_0f7a4 2 (some .int), Cond.constant RJ6 264 (65536), Cond.static yX1_without, Cond.code yX1_without cX1_without 2 (some .int), Cond.methodLink RX3 28 yX3_fill, Cond.instanceMethod yX3_fill, Cond.selects RX3 yX3_fill yX3_fill, Cond.code yX3_fill cX3_fill 5 (some .int), Cond.methodLink RX3 40 yX3_fillRow, Cond.static yX3_fillRow, Cond.code yX3_fillRow cX3_fillRow 6 none, Cond.constantLong RX3 47 (-1), Cond.methodLink RX3 32 yX3_determinant, Cond.instanceMethod yX3_determinant, Cond.selects RX3 yX3_determinant yX3_determinant, Cond.code yX3_determinant cX3_determinant 11 (some .long), Cond.methodLink RL 98 yX4_isRigid]
def wsL_isHeld_r9 : List Cond := [Cond.instanceMethod yX4_isRigid, Cond.selects RX4 yX4_isRigid yX4_isRigid, Cond.code yX4_isRigid cX4_isRigid 2 (some .boolean), Cond.methodLink RX4 191 yJ6_bitCount_0f7a4, Cond.methodLink RX4 136 yX4_countGroups, Cond.instanceMethod yX4_countGroups, Cond.selects RX4 yX4_countGroups yX4_countGroups, Cond.code yX4_countGroups cX4_countGroups 4 (some .int), Cond.instanceMethod yX1_groupOf, Cond.selects RX1 yX1_groupOf yX1_groupOf, Cond.code yX1_groupOf cX1_groupOf 6 (some .int), Cond.instanceMethod yX2_rankOf, Cond.selects RX2 yX2_rankOf yX2_rankOf, Cond.code yX2_rankOf cX2_rankOf 5 (some .int), Cond.methodLink RX2 21 yJ7_fill_53178, Cond.methodLink RX2 33 yX2_gatherPebbles, Cond.instanceMethod yX2_gatherPebbles, Cond.selects RX2 yX2_gatherPebbles yX2_gatherPebbles, Cond.code yX2_gatherPebbles cX2_gatherPebbles 4 (some .boolean), Cond.methodLink RX2 40 yX2_fetchPebble, Cond.instanceMethod yX2_fetchPebble, Cond.selects RX2 yX2_fetchPebble yX2_fetchPebble, Cond.code yX2_fetchPebble cX2_fetchPebble 4 (some .boolean), Cond.methodLink RX2 43 yX2_findPebble]
def wsL_isHeld_r10 : List Cond := [Cond.instanceMethod yX2_findPebble, Cond.selects RX2 yX2_findPebble yX2_findPebble, Cond.code yX2_findPebble cX2_findPebble 9 (some .int), Cond.methodLink RX2 53 yX2_noteWay, Cond.instanceMethod yX2_noteWay, Cond.selects RX2 yX2_noteWay yX2_noteWay, Cond.code yX2_noteWay cX2_noteWay 4 none, Cond.methodLink RX2 57 yX2_holderAmong, Cond.instanceMethod yX2_holderAmong, Cond.selects RX2 yX2_holderAmong yX2_holderAmong, Cond.code yX2_holderAmong cX2_holderAmong 3 (some .int), Cond.methodLink RX2 46 yX2_turnArcs, Cond.instanceMethod yX2_turnArcs, Cond.selects RX2 yX2_turnArcs yX2_turnArcs, Cond.code yX2_turnArcs cX2_turnArcs 5 none, Cond.methodLink RL 168 yL_from, Cond.static yL_from, Cond.code yL_from cL_from 4 (some .int), Cond.constant RL 7 (110969), Cond.constant RL 8 (2147483647), Cond.methodLink RL 172 yX4_addMember, Cond.instanceMethod yX4_addMember, Cond.selects RX4 yX4_addMember yX4_addMember, Cond.code yX4_addMember cX4_addMember 4 (some .int)]
def wsL_isHeld_r11 : List Cond := [Cond.classLink RX4 94 "java/lang/IllegalStateException", Cond.initialized "java/lang/IllegalStateException", Cond.methodLink RX4 90 yX4_requirePlace, Cond.static yX4_requirePlace, Cond.code yX4_requirePlace cX4_requirePlace 2 none, Cond.methodLink RL 175 yL_acts, Cond.static yL_acts, Cond.code yL_acts cL_acts 12 (some .boolean), Cond.methodLink RL 120 yX4_move, Cond.instanceMethod yX4_move, Cond.selects RX4 yX4_move yX4_move, Cond.code yX4_move cX4_move 4 none, Cond.methodLink RX4 101 yX4_requireMember, Cond.instanceMethod yX4_requireMember, Cond.selects RX4 yX4_requireMember yX4_requireMember, Cond.code yX4_requireMember cX4_requireMember 2 none, Cond.classLink RX4 201 "java/lang/IndexOutOfBoundsException", Cond.initialized "java/lang/IndexOutOfBoundsException", Cond.methodLink RL 124 yX4_toggle, Cond.instanceMethod yX4_toggle, Cond.selects RX4 yX4_toggle yX4_toggle, Cond.code yX4_toggle cX4_toggle 2 (some .boolean), Cond.methodLink RL 127 yX4_setPriority, Cond.instanceMethod yX4_setPriority]
def wsL_isHeld_r12 : List Cond := [Cond.selects RX4 yX4_setPriority yX4_setPriority, Cond.code yX4_setPriority cX4_setPriority 4 (some .int), Cond.methodLink RL 130 yX4_setRange, Cond.instanceMethod yX4_setRange, Cond.selects RX4 yX4_setRange yX4_setRange, Cond.code yX4_setRange cX4_setRange 3 (some .int), Cond.methodLink RL 9 yL_pair, Cond.static yL_pair, Cond.code yL_pair cL_pair 2 (some .int), Cond.methodLink RL 133 yX4_block, Cond.instanceMethod yX4_block, Cond.selects RX4 yX4_block yX4_block, Cond.code yX4_block cX4_block 3 (some .boolean), Cond.methodLink RX4 109 yX4_requireUnlike, Cond.instanceMethod yX4_requireUnlike, Cond.selects RX4 yX4_requireUnlike yX4_requireUnlike, Cond.code yX4_requireUnlike cX4_requireUnlike 3 none, Cond.instanceMethod yX1_cut, Cond.selects RX1 yX1_cut yX1_cut, Cond.code yX1_cut cX1_cut 3 none, Cond.methodLink RX1 25 yX1_without, Cond.methodLink RL 136 yX4_setEstimate, Cond.instanceMethod yX4_setEstimate, Cond.selects RX4 yX4_setEstimate yX4_setEstimate]
def wsL_isHeld_r13 : List Cond := [Cond.code yX4_setEstimate cX4_setEstimate 4 (some .int), Cond.methodLink RX4 155 yX4_requireValue, Cond.static yX4_requireValue, Cond.code yX4_requireValue cX4_requireValue 1 none, Cond.constant RX4 213 (-1000000), Cond.constant RX4 214 (1000000), Cond.methodLink RL 139 yX4_setSum, Cond.instanceMethod yX4_setSum, Cond.selects RX4 yX4_setSum yX4_setSum, Cond.code yX4_setSum cX4_setSum 4 (some .int), Cond.methodLink RL 142 yX4_want, Cond.instanceMethod yX4_want, Cond.selects RX4 yX4_want yX4_want, Cond.code yX4_want cX4_want 5 (some .int), Cond.constant RX4 170 (8000000), Cond.methodLink RL 146 yL_agreed, Cond.static yL_agreed, Cond.code yL_agreed cL_agreed 10 (some .int), Cond.methodLink RL 19 yL_heard, Cond.static yL_heard, Cond.code yL_heard cL_heard 6 (some .int), Cond.methodLink RL 15 yL_square, Cond.static yL_square, Cond.code yL_square cL_square 5 (some .int)]
def wsL_isHeld_r14 : List Cond := [Cond.methodLink RL 23 yL_ones, Cond.static yL_ones, Cond.code yL_ones cL_ones 3 (some .int), Cond.methodLink RL 149 yL_spread, Cond.static yL_spread, Cond.code yL_spread cL_spread 10 (some .int), Cond.methodLink RL 152 yL_settle, Cond.static yL_settle, Cond.code yL_settle cL_settle 9 none, Cond.methodLink RL 116 yL_moved, Cond.static yL_moved, Cond.code yL_moved cL_moved 7 (some .int), Cond.constantLong RL 106 (1000000), Cond.constantLong RL 108 (50), Cond.constantLong RL 110 (-50), Cond.constantLong RL 112 (1000), Cond.constantLong RL 114 (-1000), Cond.methodLink RL 161 yX4_settle, Cond.instanceMethod yX4_settle, Cond.selects RX4 yX4_settle yX4_settle, Cond.code yX4_settle cX4_settle 3 (some .int), Cond.methodLink RX4 180 yX4_stepTogether, Cond.instanceMethod yX4_stepTogether, Cond.selects RX4 yX4_stepTogether yX4_stepTogether]
def wsL_isHeld_r15 : List Cond := [Cond.code yX4_stepTogether cX4_stepTogether 2 none, Cond.methodLink RX4 244 yX4_stepOf, Cond.instanceMethod yX4_stepOf, Cond.selects RX4 yX4_stepOf yX4_stepOf, Cond.code yX4_stepOf cX4_stepOf 8 (some .int), Cond.constantLong RX4 251 (1000000), Cond.constantLong RX4 253 (-50), Cond.constantLong RX4 255 (50), Cond.methodLink RX4 257 Lib.MathLoose.min_long.x, Cond.static Lib.MathLoose.min_long.x, Cond.code Lib.MathLoose.min_long.x Lib.MathLoose.min_long.code 4 (some .long), Cond.methodLink RX4 260 Lib.MathLoose.max_long.x, Cond.static Lib.MathLoose.max_long.x, Cond.code Lib.MathLoose.max_long.x Lib.MathLoose.max_long.code 4 (some .long), Cond.methodLink RX4 171 yX4_excessOf, Cond.instanceMethod yX4_excessOf, Cond.selects RX4 yX4_excessOf yX4_excessOf, Cond.code yX4_excessOf cX4_excessOf 3 (some .int), Cond.methodLink RX4 248 yX4_keptOnPlane, Cond.static yX4_keptOnPlane, Cond.code yX4_keptOnPlane cX4_keptOnPlane 1 (some .int), Cond.methodLink RX4 183 yX4_error, Cond.instanceMethod yX4_error, Cond.selects RX4 yX4_error yX4_error]
def wsL_isHeld_r16 : List Cond := [Cond.code yX4_error cX4_error 4 (some .int), Cond.methodLink RX4 175 Lib.Math.abs.name, Cond.static Lib.Math.abs.name, Cond.code Lib.Math.abs.name Lib.Math.abs.code 1 (some .int), Cond.methodLink RL 163 yL_error, Cond.static yL_error, Cond.code yL_error cL_error 7 (some .int), Cond.methodLink RL 179 yL_isLinked, Cond.static yL_isLinked, Cond.code yL_isLinked cL_isLinked 11 (some .boolean), Cond.methodLink RL 34 yL_links, Cond.static yL_links, Cond.code yL_links cL_links 5 (some .int), Cond.methodLink RL 38 yX4_links, Cond.instanceMethod yX4_links, Cond.selects RX4 yX4_links yX4_links, Cond.code yX4_links cX4_links 1 (some .int), Cond.instanceMethod yX1_pairCount, Cond.selects RX1 yX1_pairCount yX1_pairCount, Cond.code yX1_pairCount cX1_pairCount 3 (some .int), Cond.methodLink RX1 38 yX1_degreeOf, Cond.methodLink RL 43 yX4_members, Cond.instanceMethod yX4_members, Cond.selects RX4 yX4_members yX4_members]
def wsL_isHeld_r17 : List Cond := [Cond.code yX4_members cX4_members 1 (some .int), Cond.methodLink RL 31 yL_group, Cond.static yL_group, Cond.code yL_group cL_group 6 (some .int), Cond.methodLink RL 46 yX4_areLinked, Cond.instanceMethod yX4_areLinked, Cond.selects RX4 yX4_areLinked yX4_areLinked, Cond.code yX4_areLinked cX4_areLinked 3 (some .boolean), Cond.methodLink RL 50 yX4_degree, Cond.instanceMethod yX4_degree, Cond.selects RX4 yX4_degree yX4_degree, Cond.code yX4_degree cX4_degree 2 (some .int), Cond.methodLink RL 53 yX4_leader, Cond.instanceMethod yX4_leader, Cond.selects RX4 yX4_leader yX4_leader, Cond.code yX4_leader cX4_leader 5 (some .int), Cond.methodLink RX4 145 yX4_outranks, Cond.instanceMethod yX4_outranks, Cond.selects RX4 yX4_outranks yX4_outranks, Cond.code yX4_outranks cX4_outranks 3 (some .boolean), Cond.methodLink RL 56 yX4_xOf, Cond.instanceMethod yX4_xOf, Cond.selects RX4 yX4_xOf yX4_xOf, Cond.code yX4_xOf cX4_xOf 2 (some .int)]
def wsL_isHeld_r18 : List Cond := [Cond.methodLink RL 59 yX4_yOf, Cond.instanceMethod yX4_yOf, Cond.selects RX4 yX4_yOf yX4_yOf, Cond.code yX4_yOf cX4_yOf 2 (some .int), Cond.methodLink RL 62 yX4_estimate, Cond.instanceMethod yX4_estimate, Cond.selects RX4 yX4_estimate yX4_estimate, Cond.code yX4_estimate cX4_estimate 2 (some .int), Cond.methodLink RL 65 yX4_sum, Cond.instanceMethod yX4_sum, Cond.selects RX4 yX4_sum yX4_sum, Cond.code yX4_sum cX4_sum 2 (some .int), Cond.methodLink RL 68 yX4_weight, Cond.instanceMethod yX4_weight, Cond.selects RX4 yX4_weight yX4_weight, Cond.code yX4_weight cX4_weight 2 (some .int), Cond.methodLink RL 71 yX4_groups, Cond.instanceMethod yX4_groups, Cond.selects RX4 yX4_groups yX4_groups, Cond.code yX4_groups cX4_groups 1 (some .int), Cond.methodLink RL 183 yX4_error, Cond.methodLink RL 185 yL_isFigure, Cond.static yL_isFigure, Cond.code yL_isFigure cL_isFigure 13 (some .boolean)]
def wsL_isHeld_r19 : List Cond := [Cond.methodLink RL 79 yL_rank, Cond.static yL_rank, Cond.code yL_rank cL_rank 3 (some .int), Cond.methodLink RL 27 yL_isFree, Cond.static yL_isFree, Cond.code yL_isFree cL_isFree 4 (some .boolean), Cond.methodLink RL 82 yL_up, Cond.static yL_up, Cond.code yL_up cL_up 3 (some .int), Cond.methodLink RL 90 yL_trees, Cond.static yL_trees, Cond.code yL_trees cL_trees 6 (some .long), Cond.methodLink RL 93 yX4_rank, Cond.instanceMethod yX4_rank, Cond.selects RX4 yX4_rank yX4_rank, Cond.code yX4_rank cX4_rank 1 (some .int), Cond.methodLink RL 95 yX4_rankByCounting, Cond.instanceMethod yX4_rankByCounting, Cond.selects RX4 yX4_rankByCounting yX4_rankByCounting, Cond.code yX4_rankByCounting cX4_rankByCounting 1 (some .int), Cond.instanceMethod yX0_rankOf, Cond.selects RX0 yX0_rankOf yX0_rankOf, Cond.code yX0_rankOf cX0_rankOf 6 (some .int), Cond.methodLink RX0 15 yJ7_fill_53178]
def wsL_isHeld_r20 : List Cond := [Cond.methodLink RX0 31 yX0_leavesFree, Cond.instanceMethod yX0_leavesFree, Cond.selects RX0 yX0_leavesFree yX0_leavesFree, Cond.code yX0_leavesFree cX0_leavesFree 4 (some .boolean), Cond.methodLink RX0 39 yJ6_bitCount_0f7a4, Cond.methodLink RX0 35 yX0_keepLink, Cond.instanceMethod yX0_keepLink, Cond.selects RX0 yX0_keepLink yX0_keepLink, Cond.code yX0_keepLink cX0_keepLink 3 none, Cond.methodLink RL 102 yL_spare, Cond.static yL_spare, Cond.codeWith yL_spare cL_spare 4 (some .int) [(0, 14, 15, 77)], Cond.classLink RL 77 "java/util/NoSuchElementException", Cond.methodLink RL 74 yX4_isSpare, Cond.instanceMethod yX4_isSpare, Cond.selects RX4 yX4_isSpare yX4_isSpare, Cond.code yX4_isSpare cX4_isSpare 4 (some .boolean), Cond.classLink RX4 196 "java/util/NoSuchElementException", Cond.initialized "java/util/NoSuchElementException"]
def wsL_isHeld : List Cond := .codeWith yL_isHeld cL_isHeld 2 (some .boolean) [(0, 4, 5, 193), (0, 4, 8, 195), (0, 4, 11, 197)] :: ((wsL_isHeld_r1 ++ (wsL_isHeld_r2 ++ (wsL_isHeld_r3 ++ (wsL_isHeld_r4 ++ (wsL_isHeld_r5 ++ (wsL_isHeld_r6 ++ (wsL_isHeld_r7 ++ (wsL_isHeld_r8 ++ (wsL_isHeld_r9 ++ (wsL_isHeld_r10 ++ (wsL_isHeld_r11 ++ (wsL_isHeld_r12 ++ (wsL_isHeld_r13 ++ (wsL_isHeld_r14 ++ (wsL_isHeld_r15 ++ (wsL_isHeld_r16 ++ (wsL_isHeld_r17 ++ (wsL_isHeld_r18 ++ (wsL_isHeld_r19 ++ wsL_isHeld_r20))))))))))))))))))) ++ wsX40 ++ wsX10 ++ wsX20 ++ wsX00 ++ wsX30 ++ (vx_atS RX4 210 "java/lang/IllegalArgumentException" ["java/lang/RuntimeException", "java/lang/Exception"]).filter goodWord ++ (vx_atS RX4 98 "java/lang/IllegalStateException" ["java/lang/RuntimeException", "java/lang/Exception"]).filter goodWord ++ (vx_atS RX4 205 "java/lang/IndexOutOfBoundsException" ["java/lang/RuntimeException", "java/lang/Exception"]).filter goodWord ++ fx_at200.filter goodWord)
def wsL_law0_r1 : List Cond := [Cond.methodLink RL 199 yL_isHeld, Cond.static yL_isHeld, Cond.initialized RL, Cond.codeWith yL_isHeld cL_isHeld 2 (some .boolean) [(0, 4, 5, 193), (0, 4, 8, 195), (0, 4, 11, 197)], Cond.classLink RL 193 "java/lang/IndexOutOfBoundsException", Cond.classLink RL 195 "java/lang/IllegalArgumentException", Cond.classLink RL 197 "java/lang/IllegalStateException", Cond.methodLink RL 189 yL_holds, Cond.static yL_holds, Cond.code yL_holds cL_holds 10 (some .boolean), Cond.classLink RL 39 RX4, Cond.instantiable RX4 18, Cond.initialized RX4, Cond.arrayClass .int, Cond.constant RL 171 (1000000), Cond.methodLink RL 167 yX4_init, Cond.instanceMethod yX4_init, Cond.code yX4_init cX4_init 2 none, Cond.methodLink RX4 1 objectInit, Cond.instanceMethod objectInit, Cond.code objectInit ⟨#[0xb1]⟩ 1 none, Cond.fieldLink RX4 9 "Formationist" "xs" "[I", Cond.fieldLink RX4 13 "Formationist" "ys" "[I", Cond.arrayClass .boolean]
def wsL_law0_r2 : List Cond := [Cond.fieldLink RX4 16 "Formationist" "ups" "[Z", Cond.fieldLink RX4 20 "Formationist" "priorities" "[I", Cond.fieldLink RX4 23 "Formationist" "estimates" "[I", Cond.fieldLink RX4 26 "Formationist" "sums" "[I", Cond.fieldLink RX4 29 "Formationist" "weights" "[I", Cond.fieldLink RX4 32 "Formationist" "lastReceivers" "[I", Cond.classLink RX4 35 "[[I", Cond.fieldLink RX4 37 "Formationist" "wantedSquares" "[[I", Cond.classLink RX4 40 RX1, Cond.instantiable RX1 1, Cond.initialized RX1, Cond.fieldLink RX4 43 "Formationist" "blocked" "LFormationist$Net;", Cond.fieldLink RX4 47 "Formationist" "count" "I", Cond.fieldLink RX4 51 "Formationist" "range" "I", Cond.fieldLink RX4 54 "Formationist" "net" "LFormationist$Net;", Cond.fieldLink RX4 57 "Formationist" "changes" "[I", Cond.fieldLink RX4 60 "Formationist" "moreChanges" "[I", Cond.classLink RX4 63 RX2, Cond.instantiable RX2 3, Cond.initialized RX2, Cond.fieldLink RX4 66 "Formationist" "pebbleGame" "LFormationist$PebbleGame;", Cond.classLink RX4 70 RX0, Cond.instantiable RX0 1, Cond.initialized RX0]
def wsL_law0_r3 : List Cond := [Cond.fieldLink RX4 73 "Formationist" "linkCounts" "LFormationist$LinkCounts;", Cond.classLink RX4 77 RX3, Cond.instantiable RX3 1, Cond.initialized RX3, Cond.fieldLink RX4 80 "Formationist" "treeMatrix" "LFormationist$TreeMatrix;", Cond.instanceMethod yX1_init, Cond.code yX1_init cX1_init 1 none, Cond.methodLink RX1 3 objectInit, Cond.fieldLink RX1 9 "Formationist$Net" "others" "[I", Cond.instanceMethod yX2_init, Cond.code yX2_init cX2_init 1 none, Cond.methodLink RX2 3 objectInit, Cond.fieldLink RX2 9 "Formationist$PebbleGame" "pebbles" "[I", Cond.fieldLink RX2 15 "Formationist$PebbleGame" "arcs" "[I", Cond.fieldLink RX2 18 "Formationist$PebbleGame" "cameFrom" "[I", Cond.instanceMethod yX0_init, Cond.code yX0_init cX0_init 1 none, Cond.methodLink RX0 3 objectInit, Cond.fieldLink RX0 11 "Formationist$LinkCounts" "linksWithin" "[I", Cond.instanceMethod yX3_init, Cond.code yX3_init cX3_init 1 none, Cond.methodLink RX3 3 objectInit, Cond.classLink RX3 9 "[[J", Cond.arrayClass .long]
def wsL_law0_r4 : List Cond := [Cond.fieldLink RX3 11 "Formationist$TreeMatrix" "rows" "[[J", Cond.methodLink RX4 84 yJ7_fill_53178, Cond.static yJ7_fill_53178, Cond.initialized RJ7, Cond.code yJ7_fill_53178 cJ7_fill_53178 4 none, Cond.methodLink RL 156 yX4_agree, Cond.instanceMethod yX4_agree, Cond.selects RX4 yX4_agree yX4_agree, Cond.code yX4_agree cX4_agree 3 (some .int), Cond.methodLink RX4 158 yX4_requireRounds, Cond.static yX4_requireRounds, Cond.code yX4_requireRounds cX4_requireRounds 1 none, Cond.methodLink RX4 105 yX4_requireWithin, Cond.static yX4_requireWithin, Cond.code yX4_requireWithin cX4_requireWithin 3 none, Cond.classLink RX4 206 "java/lang/IllegalArgumentException", Cond.initialized "java/lang/IllegalArgumentException", Cond.methodLink RX4 125 yX4_drawNet, Cond.instanceMethod yX4_drawNet, Cond.selects RX4 yX4_drawNet yX4_drawNet, Cond.code yX4_drawNet cX4_drawNet 3 none, Cond.instanceMethod yX1_clear, Cond.selects RX1 yX1_clear yX1_clear, Cond.code yX1_clear cX1_clear 1 none]
def wsL_law0_r5 : List Cond := [Cond.methodLink RX1 15 yJ7_fill_53178, Cond.methodLink RX4 122 yX4_hears, Cond.instanceMethod yX4_hears, Cond.selects RX4 yX4_hears yX4_hears, Cond.code yX4_hears cX4_hears 3 (some .boolean), Cond.instanceMethod yX1_joins, Cond.selects RX1 yX1_joins yX1_joins, Cond.code yX1_joins cX1_joins 3 (some .boolean), Cond.methodLink RX1 28 yX1_holds, Cond.static yX1_holds, Cond.code yX1_holds cX1_holds 2 (some .boolean), Cond.methodLink RX4 215 yX4_squareBetween, Cond.instanceMethod yX4_squareBetween, Cond.selects RX4 yX4_squareBetween yX4_squareBetween, Cond.code yX4_squareBetween cX4_squareBetween 5 (some .int), Cond.instanceMethod yX1_join, Cond.selects RX1 yX1_join yX1_join, Cond.code yX1_join cX1_join 3 none, Cond.methodLink RX1 21 yX1_with, Cond.static yX1_with, Cond.code yX1_with cX1_with 2 (some .int), Cond.methodLink RX4 161 yX4_exchangeEstimates, Cond.instanceMethod yX4_exchangeEstimates, Cond.selects RX4 yX4_exchangeEstimates yX4_exchangeEstimates]
def wsL_law0_r6 : List Cond := [Cond.code yX4_exchangeEstimates cX4_exchangeEstimates 4 none, Cond.methodLink RX4 224 yX4_flowBetween, Cond.instanceMethod yX4_flowBetween, Cond.selects RX4 yX4_flowBetween yX4_flowBetween, Cond.code yX4_flowBetween cX4_flowBetween 4 (some .int), Cond.methodLink RX4 231 Lib.Math.max.name, Cond.static Lib.Math.max.name, Cond.initialized "java/lang/Math", Cond.code Lib.Math.max.name Lib.Math.max.code 2 (some .int), Cond.instanceMethod yX1_degreeOf, Cond.selects RX1 yX1_degreeOf yX1_degreeOf, Cond.code yX1_degreeOf cX1_degreeOf 2 (some .int), Cond.methodLink RX1 32 yJ6_bitCount_0f7a4, Cond.static yJ6_bitCount_0f7a4, Cond.initialized RJ6, Cond.code yJ6_bitCount_0f7a4 cJ6_bitCount_0f7a4 1 (some .int), Cond.constant RJ6 265 (1431655765), Cond.constant RJ6 266 (858993459), Cond.constant RJ6 267 (252645135), Cond.methodLink RX4 227 yX4_addChanges, Cond.instanceMethod yX4_addChanges, Cond.selects RX4 yX4_addChanges yX4_addChanges, Cond.code yX4_addChanges cX4_addChanges 4 none, Cond.methodLink RX4 164 yX4_spanOfEstimates]
def wsL_law0_r7 : List Cond := [Cond.instanceMethod yX4_spanOfEstimates, Cond.selects RX4 yX4_spanOfEstimates yX4_spanOfEstimates, Cond.code yX4_spanOfEstimates cX4_spanOfEstimates 4 (some .int), Cond.methodLink RX4 234 Lib.Math.min.name, Cond.static Lib.Math.min.name, Cond.code Lib.Math.min.name Lib.Math.min.code 2 (some .int), Cond.methodLink RL 159 yX4_spread, Cond.instanceMethod yX4_spread, Cond.selects RX4 yX4_spread yX4_spread, Cond.code yX4_spread cX4_spread 4 (some .int), Cond.methodLink RX4 167 yX4_handHalves, Cond.instanceMethod yX4_handHalves, Cond.selects RX4 yX4_handHalves yX4_handHalves, Cond.code yX4_handHalves cX4_handHalves 4 (some .int), Cond.methodLink RX4 237 yX4_nextReceiver, Cond.instanceMethod yX4_nextReceiver, Cond.selects RX4 yX4_nextReceiver yX4_nextReceiver, Cond.code yX4_nextReceiver cX4_nextReceiver 4 (some .int), Cond.methodLink RX4 240 yX4_handOver, Cond.static yX4_handOver, Cond.code yX4_handOver cX4_handOver 4 none, Cond.methodLink RL 86 yX4_trees, Cond.instanceMethod yX4_trees, Cond.selects RX4 yX4_trees yX4_trees]
def wsL_law0_r8 : List Cond := [Cond.code yX4_trees cX4_trees 1 (some .long), Cond.methodLink RX4 148 yX4_upSet, Cond.instanceMethod yX4_upSet, Cond.selects RX4 yX4_upSet yX4_upSet, Cond.code yX4_upSet cX4_upSet 3 (some .int), Cond.instanceMethod yX3_treesOf, Cond.selects RX3 yX3_treesOf yX3_treesOf, Cond.code yX3_treesOf cX3_treesOf 4 (some .long), Cond.methodLink RX3 16 yJ6_numberOfTrailingZeros_0f7a4, Cond.static yJ6_numberOfTrailingZeros_0f7a4, Cond.code yJ6_numberOfTrailingZeros_0f7a4 cJ6_numberOfTrailingZeros_0f7a4 2 (some .int), Cond.constant RJ6 264 (65536), Cond.static yX1_without, Cond.code yX1_without cX1_without 2 (some .int), Cond.methodLink RX3 28 yX3_fill, Cond.instanceMethod yX3_fill, Cond.selects RX3 yX3_fill yX3_fill, Cond.code yX3_fill cX3_fill 5 (some .int), Cond.methodLink RX3 40 yX3_fillRow, Cond.static yX3_fillRow, Cond.code yX3_fillRow cX3_fillRow 6 none, Cond.constantLong RX3 47 (-1), Cond.methodLink RX3 32 yX3_determinant, Cond.instanceMethod yX3_determinant]
def wsL_law0_r9 : List Cond := [Cond.selects RX3 yX3_determinant yX3_determinant, Cond.code yX3_determinant cX3_determinant 11 (some .long), Cond.methodLink RL 98 yX4_isRigid, Cond.instanceMethod yX4_isRigid, Cond.selects RX4 yX4_isRigid yX4_isRigid, Cond.code yX4_isRigid cX4_isRigid 2 (some .boolean), Cond.methodLink RX4 191 yJ6_bitCount_0f7a4, Cond.methodLink RX4 136 yX4_countGroups, Cond.instanceMethod yX4_countGroups, Cond.selects RX4 yX4_countGroups yX4_countGroups, Cond.code yX4_countGroups cX4_countGroups 4 (some .int), Cond.instanceMethod yX1_groupOf, Cond.selects RX1 yX1_groupOf yX1_groupOf, Cond.code yX1_groupOf cX1_groupOf 6 (some .int), Cond.instanceMethod yX2_rankOf, Cond.selects RX2 yX2_rankOf yX2_rankOf, Cond.code yX2_rankOf cX2_rankOf 5 (some .int), Cond.methodLink RX2 21 yJ7_fill_53178, Cond.methodLink RX2 33 yX2_gatherPebbles, Cond.instanceMethod yX2_gatherPebbles, Cond.selects RX2 yX2_gatherPebbles yX2_gatherPebbles, Cond.code yX2_gatherPebbles cX2_gatherPebbles 4 (some .boolean), Cond.methodLink RX2 40 yX2_fetchPebble, Cond.instanceMethod yX2_fetchPebble]
def wsL_law0_r10 : List Cond := [Cond.selects RX2 yX2_fetchPebble yX2_fetchPebble, Cond.code yX2_fetchPebble cX2_fetchPebble 4 (some .boolean), Cond.methodLink RX2 43 yX2_findPebble, Cond.instanceMethod yX2_findPebble, Cond.selects RX2 yX2_findPebble yX2_findPebble, Cond.code yX2_findPebble cX2_findPebble 9 (some .int), Cond.methodLink RX2 53 yX2_noteWay, Cond.instanceMethod yX2_noteWay, Cond.selects RX2 yX2_noteWay yX2_noteWay, Cond.code yX2_noteWay cX2_noteWay 4 none, Cond.methodLink RX2 57 yX2_holderAmong, Cond.instanceMethod yX2_holderAmong, Cond.selects RX2 yX2_holderAmong yX2_holderAmong, Cond.code yX2_holderAmong cX2_holderAmong 3 (some .int), Cond.methodLink RX2 46 yX2_turnArcs, Cond.instanceMethod yX2_turnArcs, Cond.selects RX2 yX2_turnArcs yX2_turnArcs, Cond.code yX2_turnArcs cX2_turnArcs 5 none, Cond.methodLink RL 168 yL_from, Cond.static yL_from, Cond.code yL_from cL_from 4 (some .int), Cond.constant RL 7 (110969), Cond.constant RL 8 (2147483647), Cond.methodLink RL 172 yX4_addMember]
def wsL_law0_r11 : List Cond := [Cond.instanceMethod yX4_addMember, Cond.selects RX4 yX4_addMember yX4_addMember, Cond.code yX4_addMember cX4_addMember 4 (some .int), Cond.classLink RX4 94 "java/lang/IllegalStateException", Cond.initialized "java/lang/IllegalStateException", Cond.methodLink RX4 90 yX4_requirePlace, Cond.static yX4_requirePlace, Cond.code yX4_requirePlace cX4_requirePlace 2 none, Cond.methodLink RL 175 yL_acts, Cond.static yL_acts, Cond.code yL_acts cL_acts 12 (some .boolean), Cond.methodLink RL 120 yX4_move, Cond.instanceMethod yX4_move, Cond.selects RX4 yX4_move yX4_move, Cond.code yX4_move cX4_move 4 none, Cond.methodLink RX4 101 yX4_requireMember, Cond.instanceMethod yX4_requireMember, Cond.selects RX4 yX4_requireMember yX4_requireMember, Cond.code yX4_requireMember cX4_requireMember 2 none, Cond.classLink RX4 201 "java/lang/IndexOutOfBoundsException", Cond.initialized "java/lang/IndexOutOfBoundsException", Cond.methodLink RL 124 yX4_toggle, Cond.instanceMethod yX4_toggle, Cond.selects RX4 yX4_toggle yX4_toggle]
def wsL_law0_r12 : List Cond := [Cond.code yX4_toggle cX4_toggle 2 (some .boolean), Cond.methodLink RL 127 yX4_setPriority, Cond.instanceMethod yX4_setPriority, Cond.selects RX4 yX4_setPriority yX4_setPriority, Cond.code yX4_setPriority cX4_setPriority 4 (some .int), Cond.methodLink RL 130 yX4_setRange, Cond.instanceMethod yX4_setRange, Cond.selects RX4 yX4_setRange yX4_setRange, Cond.code yX4_setRange cX4_setRange 3 (some .int), Cond.methodLink RL 9 yL_pair, Cond.static yL_pair, Cond.code yL_pair cL_pair 2 (some .int), Cond.methodLink RL 133 yX4_block, Cond.instanceMethod yX4_block, Cond.selects RX4 yX4_block yX4_block, Cond.code yX4_block cX4_block 3 (some .boolean), Cond.methodLink RX4 109 yX4_requireUnlike, Cond.instanceMethod yX4_requireUnlike, Cond.selects RX4 yX4_requireUnlike yX4_requireUnlike, Cond.code yX4_requireUnlike cX4_requireUnlike 3 none, Cond.instanceMethod yX1_cut, Cond.selects RX1 yX1_cut yX1_cut, Cond.code yX1_cut cX1_cut 3 none, Cond.methodLink RX1 25 yX1_without]
def wsL_law0_r13 : List Cond := [Cond.methodLink RL 136 yX4_setEstimate, Cond.instanceMethod yX4_setEstimate, Cond.selects RX4 yX4_setEstimate yX4_setEstimate, Cond.code yX4_setEstimate cX4_setEstimate 4 (some .int), Cond.methodLink RX4 155 yX4_requireValue, Cond.static yX4_requireValue, Cond.code yX4_requireValue cX4_requireValue 1 none, Cond.constant RX4 213 (-1000000), Cond.constant RX4 214 (1000000), Cond.methodLink RL 139 yX4_setSum, Cond.instanceMethod yX4_setSum, Cond.selects RX4 yX4_setSum yX4_setSum, Cond.code yX4_setSum cX4_setSum 4 (some .int), Cond.methodLink RL 142 yX4_want, Cond.instanceMethod yX4_want, Cond.selects RX4 yX4_want yX4_want, Cond.code yX4_want cX4_want 5 (some .int), Cond.constant RX4 170 (8000000), Cond.methodLink RL 146 yL_agreed, Cond.static yL_agreed, Cond.code yL_agreed cL_agreed 10 (some .int), Cond.methodLink RL 19 yL_heard, Cond.static yL_heard, Cond.code yL_heard cL_heard 6 (some .int)]
def wsL_law0_r14 : List Cond := [Cond.methodLink RL 15 yL_square, Cond.static yL_square, Cond.code yL_square cL_square 5 (some .int), Cond.methodLink RL 23 yL_ones, Cond.static yL_ones, Cond.code yL_ones cL_ones 3 (some .int), Cond.methodLink RL 149 yL_spread, Cond.static yL_spread, Cond.code yL_spread cL_spread 10 (some .int), Cond.methodLink RL 152 yL_settle, Cond.static yL_settle, Cond.code yL_settle cL_settle 9 none, Cond.methodLink RL 116 yL_moved, Cond.static yL_moved, Cond.code yL_moved cL_moved 7 (some .int), Cond.constantLong RL 106 (1000000), Cond.constantLong RL 108 (50), Cond.constantLong RL 110 (-50), Cond.constantLong RL 112 (1000), Cond.constantLong RL 114 (-1000), Cond.methodLink RL 161 yX4_settle, Cond.instanceMethod yX4_settle, Cond.selects RX4 yX4_settle yX4_settle, Cond.code yX4_settle cX4_settle 3 (some .int)]
def wsL_law0_r15 : List Cond := [Cond.methodLink RX4 180 yX4_stepTogether, Cond.instanceMethod yX4_stepTogether, Cond.selects RX4 yX4_stepTogether yX4_stepTogether, Cond.code yX4_stepTogether cX4_stepTogether 2 none, Cond.methodLink RX4 244 yX4_stepOf, Cond.instanceMethod yX4_stepOf, Cond.selects RX4 yX4_stepOf yX4_stepOf, Cond.code yX4_stepOf cX4_stepOf 8 (some .int), Cond.constantLong RX4 251 (1000000), Cond.constantLong RX4 253 (-50), Cond.constantLong RX4 255 (50), Cond.methodLink RX4 257 Lib.MathLoose.min_long.x, Cond.static Lib.MathLoose.min_long.x, Cond.code Lib.MathLoose.min_long.x Lib.MathLoose.min_long.code 4 (some .long), Cond.methodLink RX4 260 Lib.MathLoose.max_long.x, Cond.static Lib.MathLoose.max_long.x, Cond.code Lib.MathLoose.max_long.x Lib.MathLoose.max_long.code 4 (some .long), Cond.methodLink RX4 171 yX4_excessOf, Cond.instanceMethod yX4_excessOf, Cond.selects RX4 yX4_excessOf yX4_excessOf, Cond.code yX4_excessOf cX4_excessOf 3 (some .int), Cond.methodLink RX4 248 yX4_keptOnPlane, Cond.static yX4_keptOnPlane, Cond.code yX4_keptOnPlane cX4_keptOnPlane 1 (some .int)]
def wsL_law0_r16 : List Cond := [Cond.methodLink RX4 183 yX4_error, Cond.instanceMethod yX4_error, Cond.selects RX4 yX4_error yX4_error, Cond.code yX4_error cX4_error 4 (some .int), Cond.methodLink RX4 175 Lib.Math.abs.name, Cond.static Lib.Math.abs.name, Cond.code Lib.Math.abs.name Lib.Math.abs.code 1 (some .int), Cond.methodLink RL 163 yL_error, Cond.static yL_error, Cond.code yL_error cL_error 7 (some .int), Cond.methodLink RL 179 yL_isLinked, Cond.static yL_isLinked, Cond.code yL_isLinked cL_isLinked 11 (some .boolean), Cond.methodLink RL 34 yL_links, Cond.static yL_links, Cond.code yL_links cL_links 5 (some .int), Cond.methodLink RL 38 yX4_links, Cond.instanceMethod yX4_links, Cond.selects RX4 yX4_links yX4_links, Cond.code yX4_links cX4_links 1 (some .int), Cond.instanceMethod yX1_pairCount, Cond.selects RX1 yX1_pairCount yX1_pairCount, Cond.code yX1_pairCount cX1_pairCount 3 (some .int), Cond.methodLink RX1 38 yX1_degreeOf]
def wsL_law0_r17 : List Cond := [Cond.methodLink RL 43 yX4_members, Cond.instanceMethod yX4_members, Cond.selects RX4 yX4_members yX4_members, Cond.code yX4_members cX4_members 1 (some .int), Cond.methodLink RL 31 yL_group, Cond.static yL_group, Cond.code yL_group cL_group 6 (some .int), Cond.methodLink RL 46 yX4_areLinked, Cond.instanceMethod yX4_areLinked, Cond.selects RX4 yX4_areLinked yX4_areLinked, Cond.code yX4_areLinked cX4_areLinked 3 (some .boolean), Cond.methodLink RL 50 yX4_degree, Cond.instanceMethod yX4_degree, Cond.selects RX4 yX4_degree yX4_degree, Cond.code yX4_degree cX4_degree 2 (some .int), Cond.methodLink RL 53 yX4_leader, Cond.instanceMethod yX4_leader, Cond.selects RX4 yX4_leader yX4_leader, Cond.code yX4_leader cX4_leader 5 (some .int), Cond.methodLink RX4 145 yX4_outranks, Cond.instanceMethod yX4_outranks, Cond.selects RX4 yX4_outranks yX4_outranks, Cond.code yX4_outranks cX4_outranks 3 (some .boolean), Cond.methodLink RL 56 yX4_xOf]
def wsL_law0_r18 : List Cond := [Cond.instanceMethod yX4_xOf, Cond.selects RX4 yX4_xOf yX4_xOf, Cond.code yX4_xOf cX4_xOf 2 (some .int), Cond.methodLink RL 59 yX4_yOf, Cond.instanceMethod yX4_yOf, Cond.selects RX4 yX4_yOf yX4_yOf, Cond.code yX4_yOf cX4_yOf 2 (some .int), Cond.methodLink RL 62 yX4_estimate, Cond.instanceMethod yX4_estimate, Cond.selects RX4 yX4_estimate yX4_estimate, Cond.code yX4_estimate cX4_estimate 2 (some .int), Cond.methodLink RL 65 yX4_sum, Cond.instanceMethod yX4_sum, Cond.selects RX4 yX4_sum yX4_sum, Cond.code yX4_sum cX4_sum 2 (some .int), Cond.methodLink RL 68 yX4_weight, Cond.instanceMethod yX4_weight, Cond.selects RX4 yX4_weight yX4_weight, Cond.code yX4_weight cX4_weight 2 (some .int), Cond.methodLink RL 71 yX4_groups, Cond.instanceMethod yX4_groups, Cond.selects RX4 yX4_groups yX4_groups, Cond.code yX4_groups cX4_groups 1 (some .int), Cond.methodLink RL 183 yX4_error]
def wsL_law0_r19 : List Cond := [Cond.methodLink RL 185 yL_isFigure, Cond.static yL_isFigure, Cond.code yL_isFigure cL_isFigure 13 (some .boolean), Cond.methodLink RL 79 yL_rank, Cond.static yL_rank, Cond.code yL_rank cL_rank 3 (some .int), Cond.methodLink RL 27 yL_isFree, Cond.static yL_isFree, Cond.code yL_isFree cL_isFree 4 (some .boolean), Cond.methodLink RL 82 yL_up, Cond.static yL_up, Cond.code yL_up cL_up 3 (some .int), Cond.methodLink RL 90 yL_trees, Cond.static yL_trees, Cond.code yL_trees cL_trees 6 (some .long), Cond.methodLink RL 93 yX4_rank, Cond.instanceMethod yX4_rank, Cond.selects RX4 yX4_rank yX4_rank, Cond.code yX4_rank cX4_rank 1 (some .int), Cond.methodLink RL 95 yX4_rankByCounting, Cond.instanceMethod yX4_rankByCounting, Cond.selects RX4 yX4_rankByCounting yX4_rankByCounting, Cond.code yX4_rankByCounting cX4_rankByCounting 1 (some .int), Cond.instanceMethod yX0_rankOf]
def wsL_law0_r20 : List Cond := [Cond.selects RX0 yX0_rankOf yX0_rankOf, Cond.code yX0_rankOf cX0_rankOf 6 (some .int), Cond.methodLink RX0 15 yJ7_fill_53178, Cond.methodLink RX0 31 yX0_leavesFree, Cond.instanceMethod yX0_leavesFree, Cond.selects RX0 yX0_leavesFree yX0_leavesFree, Cond.code yX0_leavesFree cX0_leavesFree 4 (some .boolean), Cond.methodLink RX0 39 yJ6_bitCount_0f7a4, Cond.methodLink RX0 35 yX0_keepLink, Cond.instanceMethod yX0_keepLink, Cond.selects RX0 yX0_keepLink yX0_keepLink, Cond.code yX0_keepLink cX0_keepLink 3 none, Cond.methodLink RL 102 yL_spare, Cond.static yL_spare, Cond.codeWith yL_spare cL_spare 4 (some .int) [(0, 14, 15, 77)], Cond.classLink RL 77 "java/util/NoSuchElementException", Cond.methodLink RL 74 yX4_isSpare, Cond.instanceMethod yX4_isSpare, Cond.selects RX4 yX4_isSpare yX4_isSpare, Cond.code yX4_isSpare cX4_isSpare 4 (some .boolean), Cond.classLink RX4 196 "java/util/NoSuchElementException", Cond.initialized "java/util/NoSuchElementException"]
def wsL_law0 : List Cond := (wsL_law0_r1 ++ (wsL_law0_r2 ++ (wsL_law0_r3 ++ (wsL_law0_r4 ++ (wsL_law0_r5 ++ (wsL_law0_r6 ++ (wsL_law0_r7 ++ (wsL_law0_r8 ++ (wsL_law0_r9 ++ (wsL_law0_r10 ++ (wsL_law0_r11 ++ (wsL_law0_r12 ++ (wsL_law0_r13 ++ (wsL_law0_r14 ++ (wsL_law0_r15 ++ (wsL_law0_r16 ++ (wsL_law0_r17 ++ (wsL_law0_r18 ++ (wsL_law0_r19 ++ wsL_law0_r20))))))))))))))))))) ++ wsX40 ++ wsX10 ++ wsX20 ++ wsX00 ++ wsX30 ++ ([] : List Cond)
def wsL_law : List Cond := wsL_law0 ++ (vx_atS RX4 210 "java/lang/IllegalArgumentException" ["java/lang/RuntimeException", "java/lang/Exception"]).filter goodWord ++ (vx_atS RX4 98 "java/lang/IllegalStateException" ["java/lang/RuntimeException", "java/lang/Exception"]).filter goodWord ++ (vx_atS RX4 205 "java/lang/IndexOutOfBoundsException" ["java/lang/RuntimeException", "java/lang/Exception"]).filter goodWord ++ fx_at200.filter goodWord
theorem inJx145de : ∀ w ∈ wsJx145de0, w ∈ lw_tbl := by decide +kernel
theorem inJ6 : ∀ w ∈ wsJ60, w ∈ lw_tbl := by decide +kernel
theorem inJ9 : ∀ w ∈ wsJ90, w ∈ lw_tbl := by decide +kernel
theorem inJ0 : ∀ w ∈ wsJ00, w ∈ lw_tbl := by decide +kernel
theorem inJ7 : ∀ w ∈ wsJ70, w ∈ lw_tbl := by decide +kernel
abbrev vwCl : List vw_C := [(RX0, TX0, 1), (RX1, TX1, 1), (RX2, TX2, 3), (RX3, TX3, 1), (RX4, TX4, 18)]
