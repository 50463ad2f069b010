/-! the end of a text in the class -/
theorem b129_f {M : Mem} (h : shc (M.2.2.1 64 2) = 8) : ∃ M', f_X10_text_b129 fuel 0 M = some (M.1 (M.2.2.1 64 2) 11, M') ∧ M'.2 = M.2 ∧ M'.1 225 0 = 0 ∧ M'.1 225 1 = 0 ∧ ∀ a k, a ≠ 225 → M'.1 a k = M.1 a k := by
  obtain ⟨st, hst⟩ : ∃ st : Nat → Mem, st = fun j => sA M 225 (zer 0 j (M.1 225)) := ⟨_, rfl⟩
  have n225 : M.2.2.1 64 2 ≠ 225 := fun z => by rw [z] at h; exact absurd h (by decide +kernel)
  have st0 : st 0 = M := by
    have e : st 0 = sA M 225 (zer 0 0 (M.1 225)) := by rw [hst]
    rw [e, zer_0, sA_self]
  have up : ∀ j, setI (st j) 225 j 0 = st (j + 1) := fun j => by
    have z := zer_s 0 j (M.1 225)
    rw [Nat.zero_add] at z
    rw [hst]
    show setI (sA M 225 (zer 0 j (M.1 225))) 225 j 0 = sA M 225 (zer 0 (j + 1) (M.1 225))
    rw [setI_sA, sA_rw, sA_two, z]
  have two : (st 2).2 = M.2 := by rw [hst]; rfl
  have cell : ∀ a k, a ≠ 225 → (st 2).1 a k = M.1 a k := fun a k ha => by rw [hst]; exact sA_n M _ k ha
  have hl := lp_for (z := fun _ _ => none) (s := f_X10_text_b129_s) (fun j (f : Int32 → Mem → Option (Int32 × Mem)) => f (nI j) (st j)) 2 (some (M.1 (M.2.2.1 64 2) 11, st 2)) (fun j hj f => by
    show f_X10_text_b129_s f (nI j) (st j) = f (nI (j + 1)) (st (j + 1))
    unfold f_X10_text_b129_s
    rw [if_neg (show ¬ (2 : Int32) ≤ nI j from nI_ge (a := j) (b := 2) hj (by omega)), gd_t (inb_nI (by omega) (by omega)), nI_clamp (by omega), nar_b.1, up, bnd_e, nI_1, bnd_e]) (fun f => by
    show f_X10_text_b129_s f (nI 2) (st 2) = _
    unfold f_X10_text_b129_s
    rw [if_pos (show (2 : Int32) ≤ nI 2 by decide), two, gd_t h, cell _ _ n225]) fuel (by unfold fuel; omega)
  simp only [st0] at hl
  have c225 : ∀ k, k < 2 → (st 2).1 225 k = 0 := fun k hk => by
    have e : (st 2).1 225 = zer 0 2 (M.1 225) := by rw [hst]; exact sA_rw _ _ _
    rw [e]
    exact if_pos (by omega)
  exact ⟨st 2, hl, two, c225 0 (by omega), c225 1 (by omega), cell⟩
theorem b93_f {M : Mem} {T U c : Nat} (hT : TT T) (hU : M.2.2.1 64 2 = U) (hT3 : M.2.2.1 64 3 = T) (h5 : M.1 T 5 = nI c) (hc : c ≤ 4) : ∃ M', f_X10_text_b93 M = some (M.1 T 11, M') ∧ M'.2.1 = M.2.1 ∧ M'.2.2.2 = M.2.2.2 ∧ (M'.2.2.1 64 2 = T ∧ M'.2.2.1 64 3 = U ∧ ∀ a k, ¬ (a = 64 ∧ (k = 2 ∨ k = 3)) → M'.2.2.1 a k = M.2.2.1 a k) ∧
    ((∀ k, k < 4 → M'.1 217 k = 0) ∧ M'.1 217 9 = 0 ∧ (∀ k, k < 4 → M'.1 219 k = if k < c then M.1 (T + 5) k else 0) ∧ (∀ k, k < 4 → M'.1 220 k = 0) ∧ (∀ k, k < 8 → M'.1 221 k = 0)) ∧ M'.1 64 9 = 0 ∧ (M'.1 225 0 = 0 ∧ M'.1 225 1 = 0) ∧ ∀ a k, a ≠ 217 → a ≠ 219 → a ≠ 220 → a ≠ 221 → a ≠ 225 → ¬ (a = 64 ∧ k = 9) → M'.1 a k = M.1 a k := by
  have t8 := tt_0 hT
  have tc := tt_208 hT
  obtain ⟨M2, d2⟩ : ∃ X, X = setR (setR M 64 2 T) 64 3 U := ⟨_, rfl⟩
  have i2 : M2.1 = M.1 := by rw [d2]; rfl
  have q2 : M2.2.2.1 64 2 = T := by
    have z : (if (64 : Nat) = 64 ∧ (2 : Nat) = 3 then U else if (64 : Nat) = 64 ∧ (2 : Nat) = 2 then T else M.2.2.1 64 2) = T := by rw [if_neg (by omega), if_pos (by omega)]
    rw [d2]; exact z
  have q3 : M2.2.2.1 64 3 = U := by
    have z : (if (64 : Nat) = 64 ∧ (3 : Nat) = 3 then U else if (64 : Nat) = 64 ∧ (3 : Nat) = 2 then T else M.2.2.1 64 3) = U := if_pos (by omega)
    rw [d2]; exact z
  have qo : ∀ a k, ¬ (a = 64 ∧ (k = 2 ∨ k = 3)) → M2.2.2.1 a k = M.2.2.1 a k := fun a k h => by
    have z : (if a = 64 ∧ k = 3 then U else if a = 64 ∧ k = 2 then T else M.2.2.1 a k) = M.2.2.1 a k := by rw [if_neg (by omega), if_neg (by omega)]
    rw [d2]; exact z
  obtain ⟨M3, e1, e2, e3, e4, e5, e6, e7, e8⟩ := day_new (M := M2) hT (by rw [i2]; exact h5) hc
  obtain ⟨M4, d4⟩ : ∃ X, X = setI M3 64 9 0 := ⟨_, rfl⟩
  have r4 : ∀ a k, ¬ (a = 64 ∧ k = 9) → M4.1 a k = M3.1 a k := fun a k h => by rw [d4, setI_n (by omega)]
  have m4 : M4.2 = M2.2 := by rw [d4, ← e2]; rfl
  have s4 : M4.2.2.1 64 2 = T := by rw [m4, q2]
  obtain ⟨M5, f1, f2, f3, f4, f5⟩ := b129_f (M := M4) (by rw [s4]; exact t8)
  have v11 : M4.1 T 11 = M.1 T 11 := by rw [r4 _ _ (by omega), e8 _ _ (by omega) (by omega) (by omega) (by omega), i2]
  refine ⟨M5, ?_, ?_, ?_, ⟨by rw [f2, s4], by rw [f2, m4, q3], fun a k h => by rw [f2, m4, qo a k h]⟩, ⟨fun k hk => by rw [f5 _ _ (by omega), r4 _ _ (by omega), e3 k hk], by rw [f5 _ _ (by omega), r4 _ _ (by omega), e4], fun k hk => by rw [f5 _ _ (by omega), r4 _ _ (by omega), e5 k hk, i2], fun k hk => by rw [f5 _ _ (by omega), r4 _ _ (by omega), e6 k hk], fun k hk => by rw [f5 _ _ (by omega), r4 _ _ (by omega), e7 k hk]⟩, by rw [f5 _ _ (by omega), d4, setI_s], ⟨f3, f4⟩, fun a k h1 h2 h3 h4 h5 h6 => by rw [f5 _ _ h5, r4 _ _ h6, e8 _ _ h1 h2 h3 h4, i2]⟩
  · unfold f_X10_text_b93
    rw [hT3, hU, bnd_e, bnd_e, bnd_e, ← d2, q2, e1, clv_s, bnd_e, ← d4, f1, s4, v11]
  · rw [f2, m4, d2]; rfl
  · rw [f2, m4, d2]; rfl
