/-! all that was read taken over -/
theorem t163_f (M : Mem) {c : Nat} (hc : c ≤ 4) (h : M.1 313 1 = nI c) : ∃ M', f_X11_takesOver_b163 fuel 0 M = some M' ∧ M'.2 = M.2 ∧ M'.1 311 40 = 0 ∧ M'.1 343 0 = 0 ∧ M'.1 343 1 = 0 ∧ (∀ x, x < c → M'.1 340 (33 + x) = M.1 320 x) ∧ (∀ k, k < 114 → ¬ (33 ≤ k ∧ k < 33 + c) → M'.1 340 k = 0) ∧ (∀ k, k < 5 → M'.1 322 k = vp_nar .boolean (M.1 322 (5 + k)) ∧ M'.1 323 k = vp_nar .boolean (M.1 323 (5 + k))) ∧ ∀ a k, ¬ (a = 311 ∧ k = 40) → a ≠ 343 → a ≠ 340 → ¬ ((a = 322 ∨ a = 323) ∧ k < 5) → M'.1 a k = M.1 a k := by
  obtain ⟨st, hst⟩ : ∃ st : Nat → Mem, st = fun j => sA (sA M 322 (flg j (M.1 322))) 323 (flg j (M.1 323)) := ⟨_, rfl⟩
  have s322 : ∀ j, (st j).1 322 = flg j (M.1 322) := fun j => by rw [hst]; exact funext (fun k => by rw [sA_n _ _ _ (by omega), sA_s])
  have s323 : ∀ j, (st j).1 323 = flg j (M.1 323) := fun j => by rw [hst]; exact sA_rw _ _ _
  have so : ∀ j a k, a ≠ 322 → a ≠ 323 → (st j).1 a k = M.1 a k := fun j a k h1 h2 => by rw [hst]; show (sA (sA M 322 (flg j (M.1 322))) 323 (flg j (M.1 323))).1 a k = _; rw [sA_n _ _ _ h2, sA_n _ _ _ h1]
  have z0 : ∀ d, flg 0 d = d := fun d => funext (fun k => if_neg (by omega))
  have st0 : st 0 = M := by
    have e : st 0 = sA (sA M 322 (flg 0 (M.1 322))) 323 (flg 0 (M.1 323)) := by rw [hst]
    rw [e, z0, z0, sA_self, sA_self]
  have up : ∀ j, j < 5 → setI (setI (st j) 322 j (vp_nar .boolean ((st j).1 322 (5 + j)))) 323 j (vp_nar .boolean ((setI (st j) 322 j (vp_nar .boolean ((st j).1 322 (5 + j)))).1 323 (5 + j))) = st (j + 1) := fun j hj => by
    have e : (setI (st j) 322 j (vp_nar .boolean ((st j).1 322 (5 + j)))).1 323 (5 + j) = (st j).1 323 (5 + j) := setI_n (by omega)
    rw [e, s322, s323]
    have m2 : (setI (setI (st j) 322 j (vp_nar .boolean (flg j (M.1 322) (5 + j)))) 323 j (vp_nar .boolean (flg j (M.1 323) (5 + j)))).2 = (st (j + 1)).2 := by rw [hst]; rfl
    refine Prod.ext (funext fun a => funext fun k => ?_) m2
    by_cases c2 : a = 322
    · rw [c2, setI_n (by omega), s322, ← flg_s j (M.1 322) hj]
      rw [setI_sA, sA_s, s322]
    · by_cases c3 : a = 323
      · rw [c3, s323, ← flg_s j (M.1 323) hj, setI_sA, sA_s]
        have q : (setI (st j) 322 j (vp_nar .boolean (flg j (M.1 322) (5 + j)))).1 323 = flg j (M.1 323) := funext (fun i => by rw [setI_n (by omega), s323])
        rw [q]
      · rw [setI_n (Or.inl c3), setI_n (Or.inl c2), so _ _ _ c2 c3, so _ _ _ c2 c3]
  obtain ⟨M', e1, e2, e3, e4, e5, e6, e7, e8⟩ := t204_f (st 5) hc (by rw [so _ _ _ (by omega) (by omega)]; exact h)
  refine ⟨M', ?_, ?_, e3, e4, e5, fun x hx => by rw [e6 x hx, so _ _ _ (by omega) (by omega)], e7, fun k hk => ⟨?_, ?_⟩, fun a k h1 h2 h3 h4 => ?_⟩
  · have hl := lp_for (z := fun _ _ => none) (s := f_X11_takesOver_b163_s) (fun j (f : Int32 → Mem → Option Mem) => f (nI j) (st j)) 5 (some M') (fun j hj f => by
      show f_X11_takesOver_b163_s f (nI j) (st j) = f (nI (j + 1)) (st (j + 1))
      have i5 : (5 : Int32) + nI j = nI (5 + j) := nI_add _ _
      unfold f_X11_takesOver_b163_s
      rw [if_neg (show ¬ (5 : Int32) ≤ nI j from nI_ge (a := j) (b := 5) hj (by omega)), i5, gd_t (inb_nI (by omega) (by omega)), gd_t (inb_nI (by omega) (by omega)), nI_clamp (show 5 + j < 2 ^ 31 by omega), nI_clamp (show j < 2 ^ 31 by omega), bnd_e, bnd_e, up j hj, nI_1, bnd_e]) (fun f => by
      show f_X11_takesOver_b163_s f (nI 5) (st 5) = _
      unfold f_X11_takesOver_b163_s
      rw [if_pos (show (5 : Int32) ≤ nI 5 by decide), e1]) fuel (by unfold fuel; omega)
    simp only [st0] at hl
    exact hl
  · rw [e2, hst]; rfl
  · rw [e8 _ _ (by omega) (by omega) (by omega), s322]
    exact if_pos (by omega)
  · rw [e8 _ _ (by omega) (by omega) (by omega), s323]
    exact if_pos (by omega)
  · rw [e8 a k h1 h2 h3]
    by_cases c2 : a = 322
    · rw [c2, s322]; exact if_neg (by omega)
    · by_cases c3 : a = 323
      · rw [c3, s323]; exact if_neg (by omega)
      · exact so _ _ _ c2 c3
theorem over_f (M : Mem) {c : Nat} (hc : c ≤ 4) (h : M.1 313 7 = nI c) : ∃ M', f_X11_takesOver M = some M' ∧ M'.2 = M.2 ∧ M'.1 311 40 = 0 ∧ M'.1 343 0 = 0 ∧ M'.1 343 1 = 0 ∧ (∀ x, x < c → M'.1 340 (33 + x) = M.1 320 (4 + x)) ∧ (∀ k, k < 114 → ¬ (33 ≤ k ∧ k < 33 + c) → M'.1 340 k = 0) ∧ (∀ k, k < 5 → M'.1 322 k = vp_nar .boolean (M.1 322 (5 + k)) ∧ M'.1 323 k = vp_nar .boolean (M.1 323 (5 + k))) ∧ (∀ a k, cpR a = true → a < 340 → k < hf a → M'.1 a k = M.1 a (hf a + k)) ∧ ∀ a k, ¬ (a = 311 ∧ k = 40) → a ≠ 343 → a ≠ 340 → ¬ (313 ≤ a ∧ a ≤ 339) → M'.1 a k = M.1 a k := by
  obtain ⟨M1, a1, o1⟩ := ovX_s (ovX_0 M) (a := 313) (by decide) (by decide) rfl
  obtain ⟨M2, a2, o2⟩ := ovX_s o1 (a := 314) (by decide) (by decide) (by decide)
  obtain ⟨M3, a3, o3⟩ := ovX_s o2 (a := 317) (by decide) (by decide) (by decide)
  obtain ⟨M4, a4, o4⟩ := ovX_s o3 (a := 318) (by decide) (by decide) (by decide)
  obtain ⟨M5, a5, o5⟩ := ovX_s o4 (a := 319) (by decide) (by decide) (by decide)
  obtain ⟨M6, a6, o6⟩ := ovX_s o5 (a := 320) (by decide) (by decide) (by decide)
  obtain ⟨M7, a7, o7⟩ := ovX_s o6 (a := 321) (by decide) (by decide) (by decide)
  obtain ⟨M8, a8, o8⟩ := ovX_s o7 (a := 324) (by decide) (by decide) (by decide)
  obtain ⟨M9, a9, o9⟩ := ovX_s o8 (a := 325) (by decide) (by decide) (by decide)
  obtain ⟨M10, a10, o10⟩ := ovX_s o9 (a := 326) (by decide) (by decide) (by decide)
  obtain ⟨M11, a11, o11⟩ := ovX_s o10 (a := 327) (by decide) (by decide) (by decide)
  obtain ⟨M12, a12, o12⟩ := ovX_s o11 (a := 328) (by decide) (by decide) (by decide)
  obtain ⟨M13, a13, o13⟩ := ovX_s o12 (a := 329) (by decide) (by decide) (by decide)
  obtain ⟨M14, a14, o14⟩ := ovX_s o13 (a := 330) (by decide) (by decide) (by decide)
  obtain ⟨M15, a15, o15⟩ := ovX_s o14 (a := 331) (by decide) (by decide) (by decide)
  obtain ⟨M16, a16, o16⟩ := ovX_s o15 (a := 332) (by decide) (by decide) (by decide)
  obtain ⟨M17, a17, o17⟩ := ovX_s o16 (a := 333) (by decide) (by decide) (by decide)
  obtain ⟨M18, a18, o18⟩ := ovX_s o17 (a := 334) (by decide) (by decide) (by decide)
  obtain ⟨M19, a19, o19⟩ := ovX_s o18 (a := 335) (by decide) (by decide) (by decide)
  obtain ⟨M20, a20, o20⟩ := ovX_s o19 (a := 336) (by decide) (by decide) (by decide)
  obtain ⟨M21, a21, o21⟩ := ovX_s o20 (a := 337) (by decide) (by decide) (by decide)
  obtain ⟨M22, a22, o22⟩ := ovX_s o21 (a := 338) (by decide) (by decide) (by decide)
  obtain ⟨M23, a23, o23⟩ := ovX_s o22 (a := 339) (by decide) (by decide) (by decide)
  obtain ⟨X, hX⟩ : ∃ X : Nat → Bool, ovX X M M23 ∧ (∀ a, a < 340 → X a = cpR a) ∧ ∀ a, 340 ≤ a → X a = false := by
    refine ⟨_, o23, by decide +kernel, fun a ha => ?_⟩
    have q : ∀ b, b < 340 → decide (a = b) = false := fun b hb => decide_eq_false (by omega)
    simp [q]
  obtain ⟨⟨m2, cell⟩, x1, x2⟩ := hX
  have yes : ∀ a k, a < 340 → cpR a = true → k < hf a → M23.1 a k = M.1 a (hf a + k) := fun a k h1 h2 h3 => by rw [cell, if_pos ⟨by rw [x1 a h1]; exact h2, h3⟩]
  have no : ∀ a k, (a < 340 → cpR a = false) → M23.1 a k = M.1 a k := fun a k h1 => by
    rw [cell, if_neg (fun z => ?_)]
    rcases Nat.lt_or_ge a 340 with q | q
    · rw [x1 a q, h1 q] at z; exact Bool.false_ne_true z.1
    · rw [x2 a q] at z; exact Bool.false_ne_true z.1
  have cpO : ∀ a, a < 340 → ¬ (313 ≤ a ∧ a ≤ 339) → cpR a = false := fun a _ h2 => by
    unfold cpR
    exact decide_eq_false (by omega)
  obtain ⟨M', e1, e2, e3, e4, e5, e6, e7, e8, e9⟩ := t163_f M23 hc (by rw [yes 313 1 (by omega) (by decide) (by decide)]; exact h)
  refine ⟨M', ?_, by rw [e2, m2], e3, e4, e5, fun x hx => ?_, e7, fun k hk => ?_, fun a k h1 h2 h3 => ?_, fun a k h1 h2 h3 h4 => ?_⟩
  · unfold f_X11_takesOver
    rw [a1, clv_s, a2, clv_s, a3, clv_s, a4, clv_s, a5, clv_s, a6, clv_s, a7, clv_s, a8, clv_s, a9, clv_s, a10, clv_s, a11, clv_s, a12, clv_s, a13, clv_s, a14, clv_s, a15, clv_s, a16, clv_s, a17, clv_s, a18, clv_s, a19, clv_s, a20, clv_s, a21, clv_s, a22, clv_s, a23, clv_s, e1]
  · rw [e6 x hx, yes 320 x (by omega) (by decide) (show x < 4 by omega)]
    rfl
  · obtain ⟨q1, q2⟩ := e8 k hk
    rw [no 322 _ (fun _ => by decide)] at q1
    rw [no 323 _ (fun _ => by decide)] at q2
    exact ⟨q1, q2⟩
  · have ne : a ≠ 322 ∧ a ≠ 323 ∧ a ≠ 311 := by
      refine ⟨fun z => ?_, fun z => ?_, fun z => ?_⟩ <;> (rw [z] at h1; exact absurd h1 (by decide))
    rw [e9 a k (by omega) (by omega) (by omega) (by omega), yes a k h2 h1 h3]
  · rw [e9 a k h1 h2 h3 (by omega), no a k (fun q => cpO a q h4)]
