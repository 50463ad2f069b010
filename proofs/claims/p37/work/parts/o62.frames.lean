/-! FRAMES OF CAMERAS: the law's framesOf -/
theorem bit_of : ∀ c, c < 8 → ∀ q, q < 5 → (nI c >>> (nI q &&& 31)) &&& 1 = if c.testBit q then (1 : Int32) else 0 := by decide +kernel
theorem shl_0 : ∀ j, j < 10 → (0 : Int32) <<< (nI j &&& 31) = 0 := by decide +kernel
theorem framesOf_law {N : Nat} {xs : Nat → Int32} {M : Mem} (h : HB M) {p c : Nat} (hp : p < Cn M 4) (hc : c < 8) : f_L_framesOf N xs (nI p) (nI c) M = some (nI (foA M p c), M) := by
  have O := h.1.2.1
  have h0 := O.1.1.2
  have h4 := O.1.2.2.2.2.1.2
  have hF := (O.2.2.2.2.2.2.1 p hp).2.2.2.2.2.1
  unfold f_L_framesOf f_L_framesOf_b5
  have hl := lp_for (z := fun _ _ _ _ _ => none) (s := f_L_framesOf_b5_s N xs) (fun j (f : Int32 → Int32 → Int32 → Int32 → Mem → Option (Int32 × Mem)) => f (nI p) (nI c) (nI (fo M p c j)) (nI j) M) (Fn M p) (some (nI (foA M p c), M)) (fun j hj f => by
    obtain ⟨q1, q2, -⟩ := frame_nat O hp hj
    obtain ⟨a1, -⟩ := an_frame h hp hj
    show f_L_framesOf_b5_s N xs f (nI p) (nI c) (nI (fo M p c j)) (nI j) M = f (nI p) (nI c) (nI (fo M p c j ||| (if c.testBit (qc M (10 * p + j)) then 2 ^ j else 0))) (nI (j + 1)) M
    unfold f_L_framesOf_b5_s
    simp only [bnd_e]
    rw [an_play5 h hp, cl_s, if_neg (nI_ge hj (by omega)), a1, cl_s, q2, bit_of c hc _ (by omega)]
    by_cases b : c.testBit (qc M (10 * p + j)) = true
    · rw [if_pos b, if_pos b, one_nI j (by omega), fa_or, nI_1]
    · rw [if_neg b, if_neg b, shl_0 j (by omega), or0, nI_1, Nat.or_zero]) (fun f => by
    show f_L_framesOf_b5_s N xs f (nI p) (nI c) (nI (fo M p c (Fn M p))) (nI (Fn M p)) M = _
    unfold f_L_framesOf_b5_s
    rw [an_play5 h hp, cl_s, if_pos (Int32.le_refl _)]
    rfl) fuel (by unfold fuel; omega)
  exact hl
