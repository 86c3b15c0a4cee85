/-! pebbles: a link is free of those before it just where four pebbles come together at its ends -/
section GPB
def gSm (f : Nat → Nat) : List Nat → Nat
  | [] => 0
  | x :: l => f x + gSm f l
theorem gSm_le {f g : Nat → Nat} : ∀ {l : List Nat}, (∀ x ∈ l, f x ≤ g x) → gSm f l ≤ gSm g l
  | [], _ => Nat.le_refl _
  | x :: l, h => Nat.add_le_add (h x List.mem_cons_self) (gSm_le fun y hy => h y (List.mem_cons_of_mem _ hy))
theorem gSm_congr {f g : Nat → Nat} : ∀ {l : List Nat}, (∀ x ∈ l, f x = g x) → gSm f l = gSm g l
  | [], _ => rfl
  | x :: l, h => by rw [gSm, gSm, h x List.mem_cons_self, gSm_congr fun y hy => h y (List.mem_cons_of_mem _ hy)]
theorem gSm_add {f g : Nat → Nat} : ∀ l : List Nat, gSm (fun x => f x + g x) l = gSm f l + gSm g l
  | [] => rfl
  | x :: l => by rw [gSm, gSm, gSm, gSm_add l]; omega
theorem gSm_zero : ∀ l : List Nat, gSm (fun _ => 0) l = 0
  | [] => rfl
  | x :: l => by rw [gSm, gSm_zero l]
theorem gSm_cnt (V : Nat → Bool) : ∀ l : List Nat, l.countP V = gSm (fun x => if V x = true then 1 else 0) l
  | [] => rfl
  | x :: l => by rw [List.countP_cons, gSm, gSm_cnt V l]; omega
theorem gSm_two (V : Nat → Bool) : ∀ l : List Nat, gSm (fun x => if V x = true then 2 else 0) l = 2 * l.countP V
  | [] => rfl
  | x :: l => by
    rw [List.countP_cons, gSm, gSm_two V l]
    by_cases h : V x = true <;> simp [h] <;> omega
/-- two sums that differ at one place -/
theorem gSm_one {f g : Nat → Nat} {x : Nat} : ∀ {l : List Nat}, l.Nodup → x ∈ l → (∀ y, y ≠ x → f y = g y) → gSm f l + g x = gSm g l + f x
  | [], _, h, _ => by cases h
  | z :: l, hn, hx, h => by
    obtain ⟨h1, h2⟩ := List.nodup_cons.mp hn
    by_cases e : z = x
    · subst e
      have : gSm f l = gSm g l := gSm_congr fun y hy => h y (fun q => h1 (q ▸ hy))
      rw [gSm, gSm, this]; omega
    · have hx' : x ∈ l := by
        rcases List.mem_cons.mp hx with q | q
        · exact absurd q.symm e
        · exact q
      have := gSm_one (l := l) h2 hx' h
      have he := h z e
      rw [gSm, gSm, he]; omega
theorem gSm_mem {f : Nat → Nat} {x : Nat} : ∀ {l : List Nat}, x ∈ l → f x ≤ gSm f l
  | [], h => by cases h
  | z :: l, h => by
    rw [gSm]
    rcases List.mem_cons.mp h with rfl | h
    · omega
    · have := gSm_mem (f := f) h
      omega
theorem gSm_mem2 {f : Nat → Nat} {x y : Nat} (hxy : x ≠ y) : ∀ {l : List Nat}, l.Nodup → x ∈ l → y ∈ l → f x + f y ≤ gSm f l
  | [], _, h, _ => by cases h
  | z :: l, hn, hx, hy => by
    obtain ⟨h1, h2⟩ := List.nodup_cons.mp hn
    rw [gSm]
    rcases List.mem_cons.mp hx with rfl | hx'
    · rcases List.mem_cons.mp hy with q | hy'
      · exact absurd q.symm hxy
      · have := gSm_mem (f := f) hy'
        omega
    · rcases List.mem_cons.mp hy with rfl | hy'
      · have := gSm_mem (f := f) hx'
        omega
      · have := gSm_mem2 (f := f) hxy h2 hx' hy'
        omega
theorem gR8 : (List.range 8).Nodup := List.nodup_range
theorem gM8 {x : Nat} (h : x < 8) : x ∈ List.range 8 := List.mem_range.mpr h
def gUp (a : Nat → Nat → Bool) (x y : Nat) (b : Bool) : Nat → Nat → Bool := fun v w => if v = x ∧ w = y then b else a v w
def gOut (a : Nat → Nat → Bool) (v : Nat) : Nat := gSm (fun w => if a v w = true then 1 else 0) (List.range 8)
def gRow (a : Nat → Nat → Bool) (V : Nat → Bool) (v : Nat) : Nat := gSm (fun w => if (V v && V w && a v w) = true then 1 else 0) (List.range 8)
def gArc (a : Nat → Nat → Bool) (V : Nat → Bool) : Nat := gSm (gRow a V) (List.range 8)
theorem gUp_same {a : Nat → Nat → Bool} {x y : Nat} {b : Bool} (h : a x y = b) : gUp a x y b = a := by
  funext v w
  unfold gUp
  by_cases e : v = x ∧ w = y
  · rw [if_pos e, ← h, e.1, e.2]
  · rw [if_neg e]
theorem gUp_up {a : Nat → Nat → Bool} {x y : Nat} {b b' : Bool} : gUp (gUp a x y b) x y b' = gUp a x y b' := by
  funext v w
  unfold gUp
  by_cases e : v = x ∧ w = y
  · rw [if_pos e, if_pos e]
  · rw [if_neg e, if_neg e, if_neg e]
theorem gOut_up {a : Nat → Nat → Bool} {x y : Nat} (hy : y < 8) (h : a x y = false) (v : Nat) : gOut (gUp a x y true) v = gOut a v + if v = x then 1 else 0 := by
  by_cases e : v = x
  · subst e
    have := gSm_one (f := fun w => if gUp a v y true v w = true then 1 else 0) (g := fun w => if a v w = true then 1 else 0) (x := y) gR8 (gM8 hy) (fun w hw => by simp [gUp, hw])
    simp only [gOut]
    simp [gUp, h] at this ⊢
    omega
  · rw [if_neg e, Nat.add_zero]
    unfold gOut
    exact gSm_congr fun w _ => by simp [gUp, e]
theorem gRow_up {a : Nat → Nat → Bool} {x y : Nat} (hy : y < 8) (h : a x y = false) (V : Nat → Bool) (v : Nat) : gRow (gUp a x y true) V v = gRow a V v + if v = x ∧ (V x && V y) = true then 1 else 0 := by
  by_cases e : v = x
  · subst e
    have := gSm_one (f := fun w => if (V v && V w && gUp a v y true v w) = true then 1 else 0) (g := fun w => if (V v && V w && a v w) = true then 1 else 0) (x := y) gR8 (gM8 hy) (fun w hw => by simp [gUp, hw])
    simp only [gRow]
    simp [gUp, h] at this ⊢
    omega
  · rw [if_neg (fun q => e q.1), Nat.add_zero]
    unfold gRow
    exact gSm_congr fun w _ => by simp [gUp, e]
theorem gArc_up {a : Nat → Nat → Bool} {x y : Nat} (hx : x < 8) (hy : y < 8) (h : a x y = false) (V : Nat → Bool) : gArc (gUp a x y true) V = gArc a V + if (V x && V y) = true then 1 else 0 := by
  have := gSm_one (f := gRow (gUp a x y true) V) (g := gRow a V) (x := x) gR8 (gM8 hx) (fun v hv => by rw [gRow_up hy h, if_neg (fun q => hv q.1)]; rfl)
  have h2 := gRow_up hy h V x
  simp only [gArc]
  simp only [true_and] at h2
  omega
theorem gArc_dn {a : Nat → Nat → Bool} {x y : Nat} (hx : x < 8) (hy : y < 8) (h : a x y = true) (V : Nat → Bool) : gArc a V = gArc (gUp a x y false) V + if (V x && V y) = true then 1 else 0 := by
  have h1 : gUp (gUp a x y false) x y true = a := by rw [gUp_up]; exact gUp_same h
  have := gArc_up (a := gUp a x y false) hx hy (by simp [gUp]) V
  rw [h1] at this
  exact this
theorem gOut_dn {a : Nat → Nat → Bool} {x y : Nat} (hy : y < 8) (h : a x y = true) (v : Nat) : gOut a v = gOut (gUp a x y false) v + if v = x then 1 else 0 := by
  have h1 : gUp (gUp a x y false) x y true = a := by rw [gUp_up]; exact gUp_same h
  have := gOut_up (a := gUp a x y false) (x := x) hy (by simp [gUp]) v
  rw [h1] at this
  exact this
/-- arcs tell the links: each link of S is an arc, one way or the other -/
def gTell (a : Nat → Nat → Bool) (S : List (Nat × Nat)) : Prop := ∀ V, gCn V S = gArc a V
theorem gTell_ne {a : Nat → Nat → Bool} {S : List (Nat × Nat)} (ht : gTell a S) (hO : gOk S) {u t : Nat} (hu : u < 8) (h : a u t = true) (ht8 : t < 8) : u ≠ t := by
  intro e
  subst e
  have h1 := ht (gPr u u)
  have h2 := gArc_dn hu hu h (gPr u u)
  have h3 : gCn (gPr u u) S = 0 := by
    unfold gCn
    rw [List.countP_eq_zero]
    intro e he hh
    simp only [gPr, Bool.and_eq_true, Bool.or_self, beq_iff_eq] at hh
    exact (hO e he).2.2 (hh.1.trans hh.2.symm)
  simp [gPr] at h2
  omega
theorem gTell_one {a : Nat → Nat → Bool} {S : List (Nat × Nat)} (ht : gTell a S) (hF : gFree S) (hO : gOk S) {u t : Nat} (hu : u < 8) (h : a u t = true) (ht8 : t < 8) : a t u = false := by
  have hne := gTell_ne ht hO hu h ht8
  have hs := gSz_pr u hu t ht8 hne
  have h1 := ht (gPr u t)
  have h2 := hF (gPr u t) (by omega)
  have h3 := gArc_dn hu ht8 h (gPr u t)
  cases hb : a t u
  · rfl
  · have h4 := gArc_dn (a := gUp a u t false) ht8 hu (by simp [gUp, hb, Ne.symm hne]) (gPr u t)
    simp [gPr] at h3 h4
    omega
def gInv (p : Nat → Nat) (a : Nat → Nat → Bool) (S : List (Nat × Nat)) : Prop := (∀ v, v < 8 → p v + gOut a v = 2) ∧ gTell a S ∧ gFree S ∧ gOk S
theorem gRow_le {a : Nat → Nat → Bool} (V : Nat → Bool) (v : Nat) : gRow a V v ≤ if V v = true then gOut a v else 0 := by
  by_cases h : V v = true
  · rw [if_pos h]
    refine gSm_le fun w _ => ?_
    cases V w <;> simp [h]
  · rw [if_neg h]
    simp only [gRow]
    rw [gSm_congr (g := fun _ => 0) (fun w _ => by simp [h]), gSm_zero]
    exact Nat.le_refl _
theorem gWt {p : Nat → Nat} {a : Nat → Nat → Bool} (h : ∀ v, v < 8 → p v + gOut a v = 2) (V : Nat → Bool) : gSm (fun v => if V v = true then p v else 0) (List.range 8) + gSm (fun v => if V v = true then gOut a v else 0) (List.range 8) = 2 * gSz V := by
  rw [← gSm_add, gSz, ← gSm_two]
  refine gSm_congr fun v hv => ?_
  have := h v (List.mem_range.mp hv)
  by_cases e : V v = true <;> simp [e] <;> omega
theorem gAccept {p : Nat → Nat} {a : Nat → Nat → Bool} {S : List (Nat × Nat)} (h : gInv p a S) {x y : Nat} (hx : x < 8) (hy : y < 8) (hne : x ≠ y) (h4 : p x + p y = 4) : gFree ((x, y) :: S) ∧ gInv (fun v => if v = x then p v - 1 else p v) (gUp a x y true) ((x, y) :: S) := by
  obtain ⟨h1, h2, h3, h5⟩ := h
  have hpx := h1 x hx
  have hpy := h1 y hy
  have hox : gOut a x = 0 := by omega
  have haxy : a x y = false := by
    cases hb : a x y
    · rfl
    · have := gSm_mem (f := fun w => if a x w = true then 1 else 0) (gM8 hy)
      simp only [gOut] at hox
      simp [hb] at this
      omega
  have hF : gFree ((x, y) :: S) := by
    intro V hV
    rw [gCn_cons]
    have hS := h3 V hV
    by_cases hb : (V x && V y) = true
    · rw [if_pos hb]
      rw [Bool.and_eq_true] at hb
      have hw := gWt h1 V
      have ha : gArc a V ≤ gSm (fun v => if V v = true then gOut a v else 0) (List.range 8) := gSm_le fun v _ => gRow_le V v
      have hm := gSm_mem2 (f := fun v => if V v = true then p v else 0) hne gR8 (gM8 hx) (gM8 hy)
      have ht := h2 V
      simp [hb.1, hb.2] at hm
      omega
    · rw [if_neg hb]
      omega
  refine ⟨hF, ?_, ?_, hF, ?_⟩
  · intro v hv
    rw [gOut_up hy haxy]
    have := h1 v hv
    by_cases e : v = x
    · subst e; simp; omega
    · simp [e]; omega
  · intro V
    rw [gCn_cons, gArc_up hx hy haxy, h2 V]
  · intro e he
    rcases List.mem_cons.mp he with rfl | he
    · exact ⟨hx, hy, hne⟩
    · exact h5 e he
theorem gReject {p : Nat → Nat} {a : Nat → Nat → Bool} {S : List (Nat × Nat)} (h : gInv p a S) {x y : Nat} (hx : x < 8) (hy : y < 8) (hne : x ≠ y) (h3 : p x + p y ≤ 3) {V : Nat → Bool} (hVx : V x = true) (hVy : V y = true)
    (hp : ∀ v, v < 8 → V v = true → v ≠ x → v ≠ y → p v = 0) (hc : ∀ v, v < 8 → V v = true → ∀ w, w < 8 → a v w = true → V w = true) : ¬ gFree ((x, y) :: S) := by
  obtain ⟨h1, h2, -, -⟩ := h
  intro hF
  have hs := gSz_two hx hy hne hVx hVy
  have := hF V hs
  rw [gCn_cons, if_pos (by simp [hVx, hVy]), h2 V] at this
  have hw := gWt h1 V
  have ha : gArc a V = gSm (fun v => if V v = true then gOut a v else 0) (List.range 8) := gSm_congr fun v hv => by
    have hv := List.mem_range.mp hv
    by_cases e : V v = true
    · rw [if_pos e]
      refine gSm_congr fun w hw => ?_
      have hw := List.mem_range.mp hw
      cases hb : a v w
      · simp
      · simp [e, hc v hv e w hw hb]
    · rw [if_neg e]
      simp only [gRow]
      rw [gSm_congr (g := fun _ => 0) (fun w _ => by simp [e]), gSm_zero]
  have hpp : gSm (fun v => if V v = true then p v else 0) (List.range 8) = p x + p y := by
    have e1 := gSm_one (f := fun v => if V v = true then p v else 0) (g := fun v => if v = y then p y else 0) (x := x) gR8 (gM8 hx)
    have e2 := gSm_one (f := fun v => if v = y then p y else 0) (g := fun _ => 0) (x := y) gR8 (gM8 hy) (fun v hv => by simp [hv])
    have e3 : gSm (fun v => if V v = true then p v else 0) (List.range 8) = gSm (fun v => if v = x then p x else if v = y then p y else 0) (List.range 8) := gSm_congr fun v hv => by
      have hv := List.mem_range.mp hv
      by_cases q1 : v = x
      · subst q1; simp [hVx]
      · by_cases q2 : v = y
        · subst q2; simp [hVy, q1]
        · simp only [if_neg q1, if_neg q2]
          by_cases q3 : V v = true
          · rw [if_pos q3]; exact hp v hv q3 q1 q2
          · rw [if_neg q3]
    have e4 := gSm_one (f := fun v => if v = x then p x else if v = y then p y else 0) (g := fun v => if v = y then p y else 0) (x := x) gR8 (gM8 hx) (fun v hv => by simp [hv])
    rw [gSm_zero] at e2
    simp [hne] at e4 e2
    omega
  omega
/-- while arcs are turned: one pebble is wanting at t, one is too many at en -/
def gTurn (p : Nat → Nat) (a : Nat → Nat → Bool) (S : List (Nat × Nat)) (t en : Nat) : Prop := (∀ v, v < 8 → p v + gOut a v + (if v = t then 1 else 0) = 2 + (if v = en then 1 else 0)) ∧ gTell a S ∧ gFree S ∧ gOk S
theorem gTurn_start {p : Nat → Nat} {a : Nat → Nat → Bool} {S : List (Nat × Nat)} (h : gInv p a S) {t en : Nat} (hne : t ≠ en) (hp : 0 < p t) : gTurn (fun v => if v = en then p v + 1 else if v = t then p v - 1 else p v) a S t en := by
  obtain ⟨h1, h2, h3, h4⟩ := h
  refine ⟨fun v hv => ?_, h2, h3, h4⟩
  have := h1 v hv
  by_cases e : v = en
  · subst e; simp [Ne.symm hne]; omega
  · by_cases e2 : v = t
    · subst e2; simp [e]; omega
    · simp [e, e2]; omega
theorem gTurn_step {p : Nat → Nat} {a : Nat → Nat → Bool} {S : List (Nat × Nat)} {t en u : Nat} (h : gTurn p a S t en) (hu : u < 8) (ht : t < 8) (ha : a u t = true) : gTurn p (gUp (gUp a u t false) t u true) S u en := by
  obtain ⟨h1, h2, h3, h4⟩ := h
  have hne := gTell_ne h2 h4 hu ha ht
  have hb := gTell_one h2 h3 h4 hu ha ht
  have hb2 : gUp a u t false t u = false := by simp [gUp, hb]
  refine ⟨fun v hv => ?_, fun V => ?_, h3, h4⟩
  · have := h1 v hv
    rw [gOut_up hu hb2]
    rw [gOut_dn ht ha v] at this
    omega
  · rw [h2 V, gArc_up ht hu hb2, gArc_dn hu ht ha V, Bool.and_comm (V t)]
theorem gTurn_end {p : Nat → Nat} {a : Nat → Nat → Bool} {S : List (Nat × Nat)} {en : Nat} (h : gTurn p a S en en) : gInv p a S :=
  ⟨fun v hv => by have := h.1 v hv; omega, h.2.1, h.2.2.1, h.2.2.2⟩
end GPB
