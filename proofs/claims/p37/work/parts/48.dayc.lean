/-! days copied, by both -/
theorem cpI_1 (M : Mem) (a b n q k : Nat) : (cpI M a b n).1 q k = if q = b ∧ k < n then M.1 a k else M.1 q k := rfl
theorem dn_far {n m : Nat} (hn : DN n) (hm : DN m) (h : n ≠ m) : n + 5 < m ∨ m + 5 < n := by
  rcases hn with rfl | ⟨i, hi, rfl⟩ | rfl | rfl <;> rcases hm with rfl | ⟨j, hj, rfl⟩ | rfl | rfl <;> omega
theorem copyDay_f {n m : Nat} (hn : DN n) (hm : DN m) (hnm : n ≠ m) {M : Mem} {s : Nat → Int32} (R : RDay M m s) (c4 : Cn M 4 ≤ 8) : ∃ M', f_X3_copyFrom n m M = some M' ∧ RDay M' n s ∧ OffD n M M' := by
  obtain ⟨t0, t1, t2, t3, t4, t5⟩ := dn_all hn
  obtain ⟨u0, u1, u2, u3, u4, u5⟩ := dn_all hm
  have far := dn_far hn hm hnm
  have rg := dn_rng hn
  have rg2 := dn_rng hm
  unfold f_X3_copyFrom
  rw [gd_t u0, gd_t t0]
  simp only [bnd_e]
  rw [t1, t2, t3, t4, t5, u1, u2, u3, u4, u5]
  obtain ⟨M1, e1⟩ : ∃ X, X = setI M n 0 (M.1 m 0) := ⟨_, rfl⟩
  rw [← e1]
  have r1 : ∀ a k, M1.1 a k = if a = n ∧ k = 0 then M.1 m 0 else M.1 a k := fun a k => by rw [e1, setI_1]
  have z1 : M1.2 = M.2 := by rw [e1]; exact rfl
  obtain ⟨M2, e2⟩ : ∃ X, X = setI M1 n 1 (M1.1 m 1) := ⟨_, rfl⟩
  rw [← e2]
  have r2 : ∀ a k, M2.1 a k = if a = n ∧ k = 1 then M1.1 m 1 else M1.1 a k := fun a k => by rw [e2, setI_1]
  have z2 : M2.2 = M.2 := by rw [e2]; exact z1
  obtain ⟨M3, e3⟩ : ∃ X, X = setI M2 n 2 (M2.1 m 2) := ⟨_, rfl⟩
  rw [← e3]
  have r3 : ∀ a k, M3.1 a k = if a = n ∧ k = 2 then M2.1 m 2 else M2.1 a k := fun a k => by rw [e3, setI_1]
  have z3 : M3.2 = M.2 := by rw [e3]; exact z2
  obtain ⟨M4, e4⟩ : ∃ X, X = setI M3 n 3 (M3.1 m 3) := ⟨_, rfl⟩
  rw [← e4]
  have r4 : ∀ a k, M4.1 a k = if a = n ∧ k = 3 then M3.1 m 3 else M3.1 a k := fun a k => by rw [e4, setI_1]
  have z4 : M4.2 = M.2 := by rw [e4]; exact z3
  obtain ⟨M5, e5⟩ : ∃ X, X = cpI M4 (m + 1) (n + 1) 8 := ⟨_, rfl⟩
  rw [← e5]
  have r5 : ∀ a k, M5.1 a k = if a = n + 1 ∧ k < 8 then M4.1 (m + 1) k else M4.1 a k := fun a k => by rw [e5, cpI_1]
  have z5 : M5.2 = M.2 := by rw [e5]; exact z4
  obtain ⟨M6, e6⟩ : ∃ X, X = cpI M5 (m + 2) (n + 2) 4 := ⟨_, rfl⟩
  rw [← e6]
  have r6 : ∀ a k, M6.1 a k = if a = n + 2 ∧ k < 4 then M5.1 (m + 2) k else M5.1 a k := fun a k => by rw [e6, cpI_1]
  have z6 : M6.2 = M.2 := by rw [e6]; exact z5
  obtain ⟨M7, e7⟩ : ∃ X, X = cpI M6 (m + 3) (n + 3) 4 := ⟨_, rfl⟩
  rw [← e7]
  have r7 : ∀ a k, M7.1 a k = if a = n + 3 ∧ k < 4 then M6.1 (m + 3) k else M6.1 a k := fun a k => by rw [e7, cpI_1]
  have z7 : M7.2 = M.2 := by rw [e7]; exact z6
  obtain ⟨M8, e8⟩ : ∃ X, X = cpI M7 (m + 4) (n + 4) 8 := ⟨_, rfl⟩
  rw [← e8]
  have r8 : ∀ a k, M8.1 a k = if a = n + 4 ∧ k < 8 then M7.1 (m + 4) k else M7.1 a k := fun a k => by rw [e8, cpI_1]
  have z8 : M8.2 = M.2 := by rw [e8]; exact z7
  obtain ⟨M9, e9⟩ : ∃ X, X = cpI M8 (m + 5) (n + 5) 64 := ⟨_, rfl⟩
  rw [← e9]
  have r9 : ∀ a k, M9.1 a k = if a = n + 5 ∧ k < 64 then M8.1 (m + 5) k else M8.1 a k := fun a k => by rw [e9, cpI_1]
  have z9 : M9.2 = M.2 := by rw [e9]; exact z8
  obtain ⟨M10, e10⟩ : ∃ X, X = setI M9 n 9 (M9.1 m 9) := ⟨_, rfl⟩
  rw [← e10]
  have r10 : ∀ a k, M10.1 a k = if a = n ∧ k = 9 then M9.1 m 9 else M9.1 a k := fun a k => by rw [e10, setI_1]
  have z10 : M10.2 = M.2 := by rw [e10]; exact z9
  have cn : ∀ i, Cn M10 i = Cn M i := fun i => by
    unfold Cn
    rw [r10, if_neg (by omega), r9, if_neg (by omega), r8, if_neg (by omega), r7, if_neg (by omega), r6, if_neg (by omega), r5, if_neg (by omega), r4, if_neg (by omega), r3, if_neg (by omega), r2, if_neg (by omega), r1, if_neg (by omega)]
  refine ⟨M10, rfl, R.cong (cn 4) (cn 1) ⟨by rw [r10, if_neg (by omega), r9, if_neg (by omega), r8, if_neg (by omega), r7, if_neg (by omega), r6, if_neg (by omega), r5, if_neg (by omega), r4, if_neg (by omega), r3, if_neg (by omega), r2, if_neg (by omega), r1, if_pos (by omega)], by rw [r10, if_neg (by omega), r9, if_neg (by omega), r8, if_neg (by omega), r7, if_neg (by omega), r6, if_neg (by omega), r5, if_neg (by omega), r4, if_neg (by omega), r3, if_neg (by omega), r2, if_pos (by omega), r1, if_neg (by omega)], by rw [r10, if_neg (by omega), r9, if_neg (by omega), r8, if_neg (by omega), r7, if_neg (by omega), r6, if_neg (by omega), r5, if_neg (by omega), r4, if_neg (by omega), r3, if_pos (by omega), r2, if_neg (by omega), r1, if_neg (by omega)], by rw [r10, if_neg (by omega), r9, if_neg (by omega), r8, if_neg (by omega), r7, if_neg (by omega), r6, if_neg (by omega), r5, if_neg (by omega), r4, if_pos (by omega), r3, if_neg (by omega), r2, if_neg (by omega), r1, if_neg (by omega)], by rw [r10, if_pos (by omega), r9, if_neg (by omega), r8, if_neg (by omega), r7, if_neg (by omega), r6, if_neg (by omega), r5, if_neg (by omega), r4, if_neg (by omega), r3, if_neg (by omega), r2, if_neg (by omega), r1, if_neg (by omega)]⟩ (fun p hp => by rw [r10, if_neg (by omega), r9, if_neg (by omega), r8, if_neg (by omega), r7, if_neg (by omega), r6, if_neg (by omega), r5, if_pos (by omega), r4, if_neg (by omega), r3, if_neg (by omega), r2, if_neg (by omega), r1, if_neg (by omega)]) (fun k hk => by rw [r10, if_neg (by omega), r9, if_neg (by omega), r8, if_neg (by omega), r7, if_neg (by omega), r6, if_pos (by omega), r5, if_neg (by omega), r4, if_neg (by omega), r3, if_neg (by omega), r2, if_neg (by omega), r1, if_neg (by omega)]) (fun k hk => by rw [r10, if_neg (by omega), r9, if_neg (by omega), r8, if_neg (by omega), r7, if_pos (by omega), r6, if_neg (by omega), r5, if_neg (by omega), r4, if_neg (by omega), r3, if_neg (by omega), r2, if_neg (by omega), r1, if_neg (by omega)]) (fun p hp => by rw [r10, if_neg (by omega), r9, if_neg (by omega), r8, if_pos (by omega), r7, if_neg (by omega), r6, if_neg (by omega), r5, if_neg (by omega), r4, if_neg (by omega), r3, if_neg (by omega), r2, if_neg (by omega), r1, if_neg (by omega)]) (fun k hk => by rw [r10, if_neg (by omega), r9, if_pos (by omega), r8, if_neg (by omega), r7, if_neg (by omega), r6, if_neg (by omega), r5, if_neg (by omega), r4, if_neg (by omega), r3, if_neg (by omega), r2, if_neg (by omega), r1, if_neg (by omega)]) (fun _ _ => rfl) c4, z10, fun a ha => funext (fun k => by rw [r10, if_neg (by omega), r9, if_neg (by omega), r8, if_neg (by omega), r7, if_neg (by omega), r6, if_neg (by omega), r5, if_neg (by omega), r4, if_neg (by omega), r3, if_neg (by omega), r2, if_neg (by omega), r1, if_neg (by omega)])⟩
/-- a stretch of one of the reference's rows put into another -/
def cpS (d : Nat → Int32) (at' : Nat) (l : Nat → Int32) (off : Nat) (j : Nat) : Nat → Int32 := fun k => if at' ≤ k ∧ k < at' + j then l (k - at' + off) else d k
theorem cpS_0 (d : Nat → Int32) (at' : Nat) (l : Nat → Int32) (off : Nat) : cpS d at' l off 0 = d := by
  funext k
  exact if_neg (by omega)
theorem cpS_s (d : Nat → Int32) (at' : Nat) (l : Nat → Int32) (off j : Nat) : upd (cpS d at' l off j) (at' + j) (l (j + off)) = cpS d at' l off (j + 1) := by
  funext k
  show (if k = at' + j then l (j + off) else if at' ≤ k ∧ k < at' + j then l (k - at' + off) else d k) = if at' ≤ k ∧ k < at' + (j + 1) then l (k - at' + off) else d k
  by_cases h : k = at' + j
  · rw [if_pos h, if_pos (by omega), show k - at' + off = j + off by omega]
  · rw [if_neg h]
    by_cases h2 : at' ≤ k ∧ k < at' + j
    · rw [if_pos h2, if_pos (by omega)]
    · rw [if_neg h2, if_neg (by omega)]
theorem n114 {a b : Nat} : (114 * nI a) + nI b = nI (114 * a + b) := by
  rw [show (114 : Int32) = nI 114 from rfl, nI_mul', nI_add]
/-- the reference keeps its day at place u -/
theorem keeps_51 (M : Mem) {u : Nat} (hu : u < 12) (h40 : M.1 311 40 = nI u) : f_X11_keeps_b51 fuel 0 M = some (setI (sA M 341 (cpS (M.1 341) (114 * u) (M.1 340) 0 114)) 311 40 (nI (u + 1))) := by
  have hl := lp_for (z := fun _ _ => none) (s := f_X11_keeps_b51_s) (fun j (f : Int32 → Mem → Option Mem) => f (nI j) (sA M 341 (cpS (M.1 341) (114 * u) (M.1 340) 0 j))) 114 (some (setI (sA M 341 (cpS (M.1 341) (114 * u) (M.1 340) 0 114)) 311 40 (nI (u + 1)))) (fun j hj f => by
    show f_X11_keeps_b51_s f (nI j) (sA M 341 (cpS (M.1 341) (114 * u) (M.1 340) 0 j)) = f (nI (j + 1)) (sA M 341 (cpS (M.1 341) (114 * u) (M.1 340) 0 (j + 1)))
    unfold f_X11_keeps_b51_s
    simp only [bnd_e]
    have e := cpS_s (M.1 341) (114 * u) (M.1 340) 0 j
    rw [if_neg (by rw [show (114 : Int32) = nI 114 from rfl]; exact nI_ge hj (by omega)), gd_t (inb_nI (by omega) (by omega)), sA_n M _ 40 (by omega), h40, n114, gd_t (inb_nI (by omega) (by omega)), nI_clamp (by omega), nI_clamp (by omega), sA_n M _ j (by omega), sA_set, nI_1]
    rw [show M.1 340 j = M.1 340 (j + 0) from rfl, e]) (fun f => by
    show f_X11_keeps_b51_s f (nI 114) (sA M 341 (cpS (M.1 341) (114 * u) (M.1 340) 0 114)) = _
    unfold f_X11_keeps_b51_s
    rw [if_pos (by decide), bnd_e, sA_n M _ 40 (by omega), h40, nI_1]) fuel (by decide)
  simp only [cpS_0, sA_self] at hl
  exact hl
/-- all kept days moved down by one -/
theorem keeps_11 (M : Mem) : f_X11_keeps_b11 fuel 0 M = (let M1 := setI (sA M 341 (cpS (M.1 341) 0 (M.1 341) 114 1254)) 311 40 (M.1 311 40 - 1)
  f_X11_keeps_b51 fuel 0 M1) := by
  have hl := lp_for (z := fun _ _ => none) (s := f_X11_keeps_b11_s) (fun j (f : Int32 → Mem → Option Mem) => f (nI j) (sA M 341 (cpS (M.1 341) 0 (M.1 341) 114 j))) 1254 (f_X11_keeps_b51 fuel 0 (setI (sA M 341 (cpS (M.1 341) 0 (M.1 341) 114 1254)) 311 40 (M.1 311 40 - 1))) (fun j hj f => by
    show f_X11_keeps_b11_s f (nI j) (sA M 341 (cpS (M.1 341) 0 (M.1 341) 114 j)) = f (nI (j + 1)) (sA M 341 (cpS (M.1 341) 0 (M.1 341) 114 (j + 1)))
    unfold f_X11_keeps_b11_s
    simp only [bnd_e]
    have e := cpS_s (M.1 341) 0 (M.1 341) 114 j
    rw [Nat.zero_add] at e
    have rd : cpS (M.1 341) 0 (M.1 341) 114 j (j + 114) = M.1 341 (j + 114) := if_neg (by omega)
    rw [if_neg (by rw [show (1254 : Int32) = nI 1254 from rfl]; exact nI_ge hj (by omega)), show nI j + 114 = nI (j + 114) from nI_add _ _, gd_t (inb_nI (by omega) (by omega)), gd_t (inb_nI (by omega) (by omega)), nI_clamp (by omega), nI_clamp (by omega), sA_s, rd, sA_set, e, nI_1]) (fun f => by
    show f_X11_keeps_b11_s f (nI 1254) (sA M 341 (cpS (M.1 341) 0 (M.1 341) 114 1254)) = _
    unfold f_X11_keeps_b11_s
    rw [if_pos (by decide), bnd_e, sA_n M _ 40 (by omega)]) fuel (by decide)
  simp only [cpS_0, sA_self] at hl
  exact hl
/-- undo's copy -/
theorem undo_26 (M : Mem) {u : Nat} (hu : u < 12) (h40 : M.1 311 40 = nI u) : f_X11_undo_b26 fuel 0 M = some (nI u, sA M 340 (cpS (M.1 340) 0 (M.1 341) (114 * u) 114)) := by
  have hl := lp_for (z := fun _ _ => none) (s := f_X11_undo_b26_s) (fun j (f : Int32 → Mem → Option (Int32 × Mem)) => f (nI j) (sA M 340 (cpS (M.1 340) 0 (M.1 341) (114 * u) j))) 114 (some (nI u, sA M 340 (cpS (M.1 340) 0 (M.1 341) (114 * u) 114))) (fun j hj f => by
    show f_X11_undo_b26_s f (nI j) (sA M 340 (cpS (M.1 340) 0 (M.1 341) (114 * u) j)) = f (nI (j + 1)) (sA M 340 (cpS (M.1 340) 0 (M.1 341) (114 * u) (j + 1)))
    unfold f_X11_undo_b26_s
    simp only [bnd_e]
    have e := cpS_s (M.1 340) 0 (M.1 341) (114 * u) j
    rw [Nat.zero_add] at e
    rw [if_neg (by rw [show (114 : Int32) = nI 114 from rfl]; exact nI_ge hj (by omega)), sA_n M _ 40 (by omega), h40, n114, gd_t (inb_nI (by omega) (by omega)), gd_t (inb_nI (by omega) (by omega)), nI_clamp (by omega), nI_clamp (by omega), sA_n M _ _ (show (341 : Nat) ≠ 340 by decide), sA_set, Nat.add_comm (114 * u) j, e, nI_1]) (fun f => by
    show f_X11_undo_b26_s f (nI 114) (sA M 340 (cpS (M.1 340) 0 (M.1 341) (114 * u) 114)) = _
    unfold f_X11_undo_b26_s
    rw [if_pos (by decide), sA_n M _ 40 (by omega), h40]) fuel (by decide)
  simp only [cpS_0, sA_self] at hl
  exact hl
