/-! a text, both run side by side -/
def FCt (T : Nat) (M M' : Mem) : Prop := M'.2.1 = M.2.1 ∧ M'.2.2.2 = M.2.2.2 ∧ (∀ a k, ¬ (a = 208 ∧ (k = 1 ∨ k = 4)) → a ≠ 210 → M'.2.2.1 a k = M.2.2.1 a k) ∧ M'.1 64 1 = 0 ∧ ∀ a k, ¬ (a = 64 ∧ k = 1) → ¬ (a = 208 ∧ 2 ≤ k) → a ≠ 209 → a ≠ 211 → ¬ (T ≤ a ∧ a ≤ T + 70) → M'.1 a k = M.1 a k
def FRt (M M' : Mem) : Prop := M'.2.2 = M.2.2 ∧ (∀ a k, ¬ (a = 311 ∧ k = 8) → a ≠ 316 → M'.2.1 a k = M.2.1 a k) ∧ (M'.1 311 0 = 0 ∧ M'.1 311 2 = 0) ∧ ∀ a k, ¬ (a = 311 ∧ k ≤ 10) → ¬ (313 ≤ a ∧ a ≤ 339 ∧ hf a ≤ k) → M'.1 a k = M.1 a k
theorem within64 {n t : Nat} (hn : n < 2 ^ 31) (ht : t < 2 ^ 31) (M : Mem) : f_X11_within (nI n).toInt64 0 (nI t).toInt64 M = some (if n ≤ t then 1 else 0, M) := by
  have w : f_X11_within (nI n).toInt64 (0 : Int32).toInt64 (nI t).toInt64 M = some (if (0 : Int32) ≤ nI n ∧ nI n ≤ nI t then 1 else 0, M) := within32 _ _ _ _
  have e : (0 : Int32).toInt64 = 0 := by decide
  rw [e] at w
  rw [w]
  by_cases c : n ≤ t
  · rw [if_pos c, if_pos ⟨le_nI (a := 0) (by omega) (by omega) (by omega), le_nI hn ht c⟩]
  · rw [if_neg c, if_neg (fun z => nI_ge (a := t) (b := n) (by omega) hn z.2)]
theorem text_run {M Mr : Mem} (h : Inv M) {n t : Nat} (h641 : M.1 64 1 = nI t) (ht : t ≤ 600) (hn : n ≤ t) (hr : ∀ a k, 311 ≤ a → Mr.1 a k = M.1 a k) (B : Nat → Nat) (hB : ∀ k, k < t → B k < 256 ∧ M.1 312 k = sb (B k)) :
    TT (M.2.2.1 64 3) ∧
    ((∃ st Mc' Mr', f_X10_text (nI n) M = f_X10_text_b93 Mc' ∧ f_X11_text (nI n) Mr = f_X11_text_b71 Mr' ∧ PP n B (M.2.2.1 64 3) st Mc' Mr' ∧ FCt (M.2.2.1 64 3) M Mc' ∧ FRt Mr Mr') ∨
    (∃ Mc' Mr', f_X10_text (nI n) M = f_X10_text_b76 Mc' ∧ f_X11_text (nI n) Mr = f_X11_text_b71 Mr' ∧ FL Mc' Mr' ∧ FCt (M.2.2.1 64 3) M Mc' ∧ FRt Mr Mr')) := by
  obtain ⟨⟨⟨hTo, -⟩, -⟩, -, -, -, ⟨t', ht', e1, e2, e3⟩, -, e203⟩ := id h
  have tt' : t' = t := by
    rw [h641] at e1
    exact ((nI_eq (by omega) (by omega)).mp e1).symm
  rw [tt'] at e2 e3
  obtain ⟨T, eT⟩ : ∃ T, T = M.2.2.1 64 3 := ⟨_, rfl⟩
  have hT : TT T := by
    have hTo' : M.2.2.1 64 2 = 66 ∨ M.2.2.1 64 2 = 137 := hTo
    rw [← eT] at e203
    rcases hTo' with q | q
    · exact Or.inr (by omega)
    · exact Or.inl (by omega)
  have tc := tt_208 hT
  rw [← eT]
  obtain ⟨Mc0, d0⟩ : ∃ X, X = setI M 64 1 0 := ⟨_, rfl⟩
  have T0 : Mc0.2.2.1 64 3 = T := by rw [d0]; exact eT.symm
  have r0 : ∀ a k, ¬ (a = 64 ∧ k = 1) → Mc0.1 a k = M.1 a k := fun a k q => by rw [d0, setI_n (by omega)]
  obtain ⟨Mr1, g1⟩ : ∃ X, X = setI Mr 311 0 0 := ⟨_, rfl⟩
  have r1 : ∀ a k, ¬ (a = 311 ∧ k = 0) → Mr1.1 a k = Mr.1 a k := fun a k q => by rw [g1, setI_n (by omega)]
  have w2 : Mr1.1 311 2 = nI t := by rw [r1 _ _ (by omega), hr _ _ (by omega), e2]
  obtain ⟨Mr5, g5⟩ : ∃ X, X = setI (setI (setI (setI Mr1 311 2 0) 311 3 (nI n)) 311 5 0) 311 9 0 := ⟨_, rfl⟩
  have r5 : ∀ a k, ¬ (a = 311 ∧ (k = 2 ∨ k = 3 ∨ k = 5 ∨ k = 9)) → Mr5.1 a k = Mr1.1 a k := fun a k q => by rw [g5, setI_n (by omega), setI_n (by omega), setI_n (by omega), setI_n (by omega)]
  have y3 : Mr5.1 311 3 = nI n := by rw [g5, setI_n (by omega), setI_n (by omega), setI_s]
  have y5 : Mr5.1 311 5 = 0 := by rw [g5, setI_n (by omega), setI_s]
  have y9 : Mr5.1 311 9 = 0 := by rw [g5, setI_s]
  have y2 : Mr5.1 311 2 = 0 := by rw [g5, setI_n (by omega), setI_n (by omega), setI_n (by omega), setI_s]
  have y0 : Mr5.1 311 0 = 0 := by rw [r5 _ _ (by omega), g1, setI_s]
  obtain ⟨st, Mc6, Mr6, Mr5', a1, a2, a3, P, ⟨f1, f2, f3, f4⟩, ⟨k1, k2, k3⟩⟩ := begin_ls (Mc := Mc0) (Mr := Mr5) hT (show n ≤ 600 by omega) (fun k hk => ⟨(hB k (by omega)).1, by rw [r0 _ _ (by omega), (e3 k (by omega)).1, (hB k (by omega)).2]⟩) (fun k hk => by rw [r5 _ _ (by omega), r1 _ _ (by omega), hr _ _ (by omega), (hB k (by omega)).2]) y3 y5 y9
  have ec : f_X10_text (nI n) M = f_X10_text_b33 fuel 0 Mc6 := by
    unfold f_X10_text
    rw [if_neg (show ¬ nI n < 0 from fun z => by have := (lt_nI (a := n) (b := 0) (by omega) (by omega)).mp z; omega), h641, if_pos (le_nI (by omega) (by omega) hn), bnd_e, ← d0, T0, a1, clv_s]
  have er : f_X11_text (nI n) Mr = f_X11_text_b50 fuel Mr6 := by
    unfold f_X11_text
    rw [bnd_e, ← g1, w2, within64 (by omega) (by omega), if_pos hn, cl_s, if_neg (show ¬ (1 : Int32) = 0 by decide), bnd_e, bnd_e, bnd_e, bnd_e, ← g5, a2, clv_s, a3, clv_s]
  have ef : fuel = 4399 + 600 + 1 := rfl
  have fc : ∀ Mc', FPC T Mc6 Mc' → FCt T M Mc' := fun Mc' q => by
    obtain ⟨q1, q2, q3, q4⟩ := q
    refine ⟨by rw [q1, f1, d0]; rfl, by rw [q2, f2, d0]; rfl, fun a k x y => ?_, ?_, fun a k x y z w v => ?_⟩
    · rw [q3 _ _ (by omega) y, f3 _ _ x, d0]; rfl
    · rw [q4 _ _ (by omega) (by omega) (by omega) (by omega), f4 _ _ (by omega) (by omega), d0, setI_s]
    · rw [q4 _ _ (by omega) z w v, f4 _ _ y v, r0 _ _ x]
  have fr : ∀ Mr', FPR Mr6 Mr' → FRt Mr Mr' := fun Mr' q => by
    obtain ⟨q1, q2, q3⟩ := q
    refine ⟨by rw [q1, k1, g5, g1]; rfl, fun a k x y => ?_, ⟨?_, ?_⟩, fun a k x y => ?_⟩
    · rw [q2 _ _ x y, k2 _ _ x, g5, g1]; rfl
    · rw [q3 _ _ (by omega) (by omega), k3 _ _ (by omega) (by omega), y0]
    · rw [q3 _ _ (by omega) (by omega), k3 _ _ (by omega) (by omega), y2]
    · rw [q3 _ _ (by omega) y, k3 _ _ (by omega) y, r5 _ _ (by omega), r1 _ _ (by omega)]
  refine ⟨hT, ?_⟩
  rw [ec, er]
  rcases tloop_ls 4399 4399 600 0 st Mc6 Mr6 (by omega) (Nat.zero_le _) P with ⟨st', Mc', Mr', z1, z2, z3, z4, z5⟩ | ⟨Mc', Mr', z1, z2, z3, z4, z5⟩
  · exact Or.inl ⟨st', Mc', Mr', z1, z2, z3, fc _ z4, fr _ z5⟩
  · exact Or.inr ⟨Mc', Mr', z1, z2, z3, fc _ z4, fr _ z5⟩
