section LVAA
theorem hx_none : ∀ k, k < 64 → (if nI (k / 8) = (-1 : Int32) then (if nI (k % 8) = (-1 : Int32) then some (1 : Int32) else if nI (k / 8) = (-1 : Int32) then (if nI (k % 8) = (-1 : Int32) then some 1 else some 0) else some 0) else if nI (k / 8) = (-1 : Int32) then (if nI (k % 8) = (-1 : Int32) then some 1 else some 0) else some 0) = some (bI ((fun _ => false : Nat → Bool) k)) := by decide +kernel
theorem P_same (τ : fm_S) (e : Nat × Nat) : rP τ (fun _ => false) 64 e ↔ cP2 τ 8 0 e := by
  unfold rP cP2
  constructor
  · rintro ⟨w1, w2, w3, w4, -⟩; exact ⟨w1, w2, by omega, w4⟩
  · rintro ⟨w1, w2, w3, w4⟩; exact ⟨w1, w2, by omega, w4, rfl⟩
theorem P_ok (τ : fm_S) : ∀ e, cP2 τ 8 0 e → e.1 < 8 ∧ e.2 < 8 ∧ e.1 ≠ e.2 := fun e h => ⟨by have := h.1; have := h.2.1; omega, h.2.1, by have := h.1; omega⟩
theorem c_rankByCounting {τ : fm_S} (h : RR τ) : ON (mX4_rankByCounting τ) mX5_rankByCounting := by
  obtain ⟨c, hw, hv⟩ := h
  obtain ⟨τ1, e1, r1, n1⟩ := k_draw hw
  obtain ⟨τ2, I, e2, r2, g2⟩ := k_countsC hw n1
  have s1 : scr τ τ2 := (scr.row r1 (by decide)).trans (scr.row r2 (by decide))
  have s2 := msc.last τ2 0
  obtain ⟨σ', J, e3, s3, g3⟩ := k_ranksM hw (s2.mv (s1.mv hv)) hx_none
  have hl : I.length = J.length := gMax_eq (P_ok τ) g2 (gMax_iff g3 (fun e => (P_same τ e).symm))
  refine ⟨nI I.length, τ2, σ', ?_, ?_, ro hw hv s1 (s2.trans s3)⟩
  · rw [mX4_rankByCounting, e1, b1s, e2, b2s]
  · rw [mX5_rankByCounting, e3, b2s, hl]
end LVAA
