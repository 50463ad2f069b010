/-! the class's new day -/
theorem sh_day : (shc 217 = 3 ∧ cr 217 5 = 219 ∧ cr 217 6 = 220 ∧ cr 217 7 = 221) ∧ (shc 219 = 20 ∧ shl 219 = 4) ∧ shc 221 = 20 ∧ shl 221 = 8 := by decide +kernel
theorem day_new {M : Mem} {T c : Nat} (hT : TT T) (h5 : M.1 T 5 = nI c) (hc : c ≤ 4) : ∃ M', f_X3_begin 217 T M = some M' ∧ M'.2 = M.2 ∧ (∀ k, k < 4 → M'.1 217 k = 0) ∧ M'.1 217 9 = 0 ∧ (∀ k, k < 4 → M'.1 219 k = if k < c then M.1 (T + 5) k else 0) ∧ (∀ k, k < 4 → M'.1 220 k = 0) ∧ (∀ k, k < 8 → M'.1 221 k = 0) ∧ ∀ a k, a ≠ 217 → a ≠ 219 → a ≠ 220 → a ≠ 221 → M'.1 a k = M.1 a k := by
  have t8 := tt_0 hT
  have tc := tt_208 hT
  obtain ⟨-, -, -, -, tr6, -⟩ := tt_r hT
  obtain ⟨⟨s1, s2, s3, s4⟩, ⟨s5, s6⟩, s7, s8⟩ := sh_day
  have key : ∀ d x M, x + d = 4 → M.1 T 5 = nI c → ∀ m, ∃ M', f_X3_begin_b22 (m + d + 1) 217 T (nI x) M = some M' ∧ M'.2 = M.2 ∧ (∀ k, x ≤ k → k < 4 → M'.1 219 k = (if k < c then M.1 (T + 5) k else 0) ∧ M'.1 220 k = 0) ∧ (∀ k, k < x → M'.1 219 k = M.1 219 k ∧ M'.1 220 k = M.1 220 k) ∧ M'.1 217 9 = 0 ∧ (∀ k, k < 8 → M'.1 221 k = 0) ∧ (∀ k, k ≠ 9 → M'.1 217 k = M.1 217 k) ∧ ∀ a k, a ≠ 217 → a ≠ 219 → a ≠ 220 → a ≠ 221 → M'.1 a k = M.1 a k := by
    intro d
    induction d with
    | zero =>
      intro x M hx h m
      have e : f_X3_begin_b22 (m + 0 + 1) 217 T (nI x) M = f_X3_begin_b22_s (f_X3_begin_b22 (m + 0)) 217 T (nI x) M := rfl
      refine ⟨setI (sA M 221 (fil 8 0 8 (M.1 221))) 217 9 0, ?_, rfl, fun k h1 h2 => absurd h1 (by omega), fun k hk => ⟨?_, ?_⟩, setI_s, fun k hk => ?_, fun k hk => ?_, fun a k h1 h2 h3 h4 => ?_⟩
      · rw [e]
        unfold f_X3_begin_b22_s
        rw [if_pos (show (4 : Int32) ≤ nI x by rw [show x = 4 by omega]; decide), gd_t s1, s4, fill_f s7 s8 (by omega), clv_s, bnd_e]
      · rw [setI_n (by omega), sA_n _ _ _ (by omega)]
      · rw [setI_n (by omega), sA_n _ _ _ (by omega)]
      · rw [setI_n (by omega), sA_s]
        exact if_pos hk
      · rw [setI_n (by omega), sA_n _ _ _ (by omega)]
      · rw [setI_n (by omega), sA_n _ _ _ h4]
    | succ d ih =>
      intro x M hx h m
      have e : f_X3_begin_b22 (m + (d + 1) + 1) 217 T (nI x) M = f_X3_begin_b22_s (f_X3_begin_b22 (m + d + 1)) 217 T (nI x) M := rfl
      obtain ⟨v, hv⟩ : ∃ v, v = if x < c then M.1 (T + 5) x else 0 := ⟨_, rfl⟩
      obtain ⟨M1, d1⟩ : ∃ X, X = setI (setI M 219 x v) 220 x 0 := ⟨_, rfl⟩
      have r1 : ∀ a k, a ≠ 219 → a ≠ 220 → M1.1 a k = M.1 a k := fun a k h1 h2 => by rw [d1, setI_n (Or.inl h2), setI_n (Or.inl h1)]
      obtain ⟨M', e1, e2, e3, e4, e5, e6, e7, e8⟩ := ih (x + 1) M1 (by omega) (by rw [r1 _ _ (by omega) (by omega)]; exact h) m
      have b50 : f_X3_begin_b50 (f_X3_begin_b22 (m + d + 1)) 217 T (nI x) 219 (nI x) v M = some M' := by
        unfold f_X3_begin_b50
        rw [gd_t s5, s6, gd_t (inb_nI (by omega) (by omega)), bnd_e, gd_t s1, gd_t (inb_nI (by omega) (by omega)), s3, nI_clamp (show x < 2 ^ 31 by omega), bnd_e, ← d1, nI_1, bnd_e]
        exact e1
      refine ⟨M', ?_, by rw [e2, d1]; rfl, fun k h1 h2 => ?_, fun k hk => ?_, e5, e6, fun k hk => by rw [e7 k hk, r1 _ _ (by omega) (by omega)], fun a k h1 h2 h3 h4 => by rw [e8 a k h1 h2 h3 h4, r1 _ _ h2 h3]⟩
      · rw [e]
        unfold f_X3_begin_b22_s
        rw [if_neg (show ¬ (4 : Int32) ≤ nI x from nI_ge (a := x) (b := 4) (by omega) (by omega)), gd_t s1, gd_t t8, h, s2]
        by_cases z : x < c
        · have e0 : v = M.1 (T + 5) x := by rw [hv, if_pos z]
          rw [if_neg (show ¬ nI c ≤ nI x from nI_ge z (by omega)), gd_t (inb_nI (by omega) (by omega)), tr6, nI_clamp (show x < 2 ^ 31 by omega), ← e0]
          exact b50
        · have e0 : v = 0 := by rw [hv, if_neg z]
          rw [if_pos (le_nI (by omega) (by omega) (by omega)), ← e0]
          exact b50
      · by_cases z : k = x
        · obtain ⟨q1, q2⟩ := e4 k (by omega)
          rw [q1, q2, d1, z, setI_n (by omega), setI_s, setI_s, hv]
          exact ⟨rfl, rfl⟩
        · obtain ⟨q1, q2⟩ := e3 k (by omega) h2
          rw [q1, q2, r1 _ _ (by omega) (by omega)]
          exact ⟨rfl, rfl⟩
      · obtain ⟨q1, q2⟩ := e4 k (by omega)
        rw [q1, q2, d1, setI_n (by omega), setI_n (by omega), setI_n (by omega), setI_n (by omega)]
        exact ⟨rfl, rfl⟩
  obtain ⟨M4, d4⟩ : ∃ X, X = setI (setI (setI (setI M 217 0 0) 217 1 0) 217 2 0) 217 3 0 := ⟨_, rfl⟩
  have r4 : ∀ a k, a ≠ 217 → M4.1 a k = M.1 a k := fun a k h => by rw [d4, setI_n (Or.inl h), setI_n (Or.inl h), setI_n (Or.inl h), setI_n (Or.inl h)]
  obtain ⟨M', e1, e2, e3, e4, e5, e6, e7, e8⟩ := key 4 0 M4 (by omega) (by rw [r4 _ _ (by omega)]; exact h5) 4995
  have ef : 4995 + 4 + 1 = fuel := rfl
  rw [ef] at e1
  refine ⟨M', ?_, by rw [e2, d4]; rfl, fun k hk => ?_, e5, fun k hk => ?_, fun k hk => (e3 k (by omega) hk).2, e6, fun a k h1 h2 h3 h4 => by rw [e8 a k h1 h2 h3 h4, r4 _ _ h1]⟩
  · unfold f_X3_begin
    rw [gd_t s1, bnd_e, bnd_e, bnd_e, bnd_e, ← d4]
    exact e1
  · rw [e7 k (by omega), d4]
    have e : k = 0 ∨ k = 1 ∨ k = 2 ∨ k = 3 := by omega
    rcases e with rfl | rfl | rfl | rfl
    · rw [setI_n (by omega), setI_n (by omega), setI_n (by omega), setI_s]
    · rw [setI_n (by omega), setI_n (by omega), setI_s]
    · rw [setI_n (by omega), setI_s]
    · rw [setI_s]
  · rw [(e3 k (by omega) hk).1, r4 _ _ (by omega)]
