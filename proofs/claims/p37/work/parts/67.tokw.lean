/-! BOTH READ TOKENS ALIKE -/
/-- the class's token of a word -/
def tokW (w : Nat) : Nat := if w = 102143553 then 10 else if w = 6686312 then 11 else if w = 631941 then 12 else if w = 370116 then 13 else if w = 2590276 then 14 else if w = 536633 then 15 else if w = 12891444 then 16 else if w = 2603699 then 17 else if w = 394868 then 18 else if w = 781652471 then 19 else if w = 217648292 then 20 else if w = 1279278 then 21 else if w = 72564293 then 22 else if w = 1476 then 23 else if w = 25779 then 24 else if w = 463 then 25 else 3
theorem ofW {w k : Nat} (hk : k < 25) (no : ∀ i, i < k → tokCode (i + 1) ≠ nI w) (yes : tokCode (k + 1) = nI w) (M : Mem) : f_X8_ofWord (nI w) M = some (k + 1, M) := by
  have hl := lp_for (z := fun _ _ _ => none) (s := f_X8_ofWord_b2_s) (fun j (f : Int32 → Int32 → Mem → Option (Nat × Mem)) => f (nI w) (nI j) M) k (some (k + 1, M)) (fun j hj f => by
    show f_X8_ofWord_b2_s f (nI w) (nI j) M = f (nI w) (nI (j + 1)) M
    unfold f_X8_ofWord_b2_s
    rw [if_neg (by rw [show (25 : Int32) = nI 25 from rfl]; exact nI_ge (by omega) (by omega)), gd_t (inb_nI (by omega) (by omega)), nI_clamp (by omega), if_neg (no j hj), bnd_e, nI_1]) (fun f => by
    show f_X8_ofWord_b2_s f (nI w) (nI k) M = _
    unfold f_X8_ofWord_b2_s
    rw [if_neg (by rw [show (25 : Int32) = nI 25 from rfl]; exact nI_ge (by omega) (by omega)), gd_t (inb_nI (by omega) (by omega)), nI_clamp (by omega), if_pos yes]) fuel (by unfold fuel; omega)
  exact hl
theorem ofW_no {w : Nat} (no : ∀ i, i < 25 → tokCode (i + 1) ≠ nI w) (M : Mem) : f_X8_ofWord (nI w) M = some (3, M) := by
  have hl := lp_for (z := fun _ _ _ => none) (s := f_X8_ofWord_b2_s) (fun j (f : Int32 → Int32 → Mem → Option (Nat × Mem)) => f (nI w) (nI j) M) 25 (some (3, M)) (fun j hj f => by
    show f_X8_ofWord_b2_s f (nI w) (nI j) M = f (nI w) (nI (j + 1)) M
    unfold f_X8_ofWord_b2_s
    rw [if_neg (by rw [show (25 : Int32) = nI 25 from rfl]; exact nI_ge (by omega) (by omega)), gd_t (inb_nI (by omega) (by omega)), nI_clamp (by omega), if_neg (no j hj), bnd_e, nI_1]) (fun f => by
    show f_X8_ofWord_b2_s f (nI w) (nI 25) M = _
    unfold f_X8_ofWord_b2_s
    rw [if_pos (by decide)]) fuel (by unfold fuel; omega)
  exact hl
def tcL : List Nat := [0, 0, 0, 0, 0, 0, 0, 0, 0, 102143553, 6686312, 631941, 370116, 2590276, 536633, 12891444, 2603699, 394868, 781652471, 217648292, 1279278, 72564293, 1476, 25779, 463]
theorem tcL_e : ∀ i, i < 25 → tokCode (i + 1) = nI (tcL.getD i 0) ∧ tcL.getD i 0 < 2 ^ 30 := by decide +kernel
theorem ofWord_f {w : Nat} (h0 : 0 < w) (hw : w < 2 ^ 30) (M : Mem) : f_X8_ofWord (nI w) M = some (tokW w, M) := by
  unfold tokW
  by_cases c0 : w = 102143553
  · rw [if_pos c0, c0]; exact ofW (k := 9) (by omega) (by decide +kernel) (by decide +kernel) M
  rw [if_neg c0]
  by_cases c1 : w = 6686312
  · rw [if_pos c1, c1]; exact ofW (k := 10) (by omega) (by decide +kernel) (by decide +kernel) M
  rw [if_neg c1]
  by_cases c2 : w = 631941
  · rw [if_pos c2, c2]; exact ofW (k := 11) (by omega) (by decide +kernel) (by decide +kernel) M
  rw [if_neg c2]
  by_cases c3 : w = 370116
  · rw [if_pos c3, c3]; exact ofW (k := 12) (by omega) (by decide +kernel) (by decide +kernel) M
  rw [if_neg c3]
  by_cases c4 : w = 2590276
  · rw [if_pos c4, c4]; exact ofW (k := 13) (by omega) (by decide +kernel) (by decide +kernel) M
  rw [if_neg c4]
  by_cases c5 : w = 536633
  · rw [if_pos c5, c5]; exact ofW (k := 14) (by omega) (by decide +kernel) (by decide +kernel) M
  rw [if_neg c5]
  by_cases c6 : w = 12891444
  · rw [if_pos c6, c6]; exact ofW (k := 15) (by omega) (by decide +kernel) (by decide +kernel) M
  rw [if_neg c6]
  by_cases c7 : w = 2603699
  · rw [if_pos c7, c7]; exact ofW (k := 16) (by omega) (by decide +kernel) (by decide +kernel) M
  rw [if_neg c7]
  by_cases c8 : w = 394868
  · rw [if_pos c8, c8]; exact ofW (k := 17) (by omega) (by decide +kernel) (by decide +kernel) M
  rw [if_neg c8]
  by_cases c9 : w = 781652471
  · rw [if_pos c9, c9]; exact ofW (k := 18) (by omega) (by decide +kernel) (by decide +kernel) M
  rw [if_neg c9]
  by_cases c10 : w = 217648292
  · rw [if_pos c10, c10]; exact ofW (k := 19) (by omega) (by decide +kernel) (by decide +kernel) M
  rw [if_neg c10]
  by_cases c11 : w = 1279278
  · rw [if_pos c11, c11]; exact ofW (k := 20) (by omega) (by decide +kernel) (by decide +kernel) M
  rw [if_neg c11]
  by_cases c12 : w = 72564293
  · rw [if_pos c12, c12]; exact ofW (k := 21) (by omega) (by decide +kernel) (by decide +kernel) M
  rw [if_neg c12]
  by_cases c13 : w = 1476
  · rw [if_pos c13, c13]; exact ofW (k := 22) (by omega) (by decide +kernel) (by decide +kernel) M
  rw [if_neg c13]
  by_cases c14 : w = 25779
  · rw [if_pos c14, c14]; exact ofW (k := 23) (by omega) (by decide +kernel) (by decide +kernel) M
  rw [if_neg c14]
  by_cases c15 : w = 463
  · rw [if_pos c15, c15]; exact ofW (k := 24) (by omega) (by decide +kernel) (by decide +kernel) M
  rw [if_neg c15]
  refine ofW_no (fun i hi => ?_) M
  obtain ⟨e, l⟩ := tcL_e i hi
  rw [e]
  intro z
  have q := inj_nI (by omega) (by omega) z
  have key : ∀ i, i < 25 → tcL.getD i 0 = 0 ∨ tcL.getD i 0 = 102143553 ∨ tcL.getD i 0 = 6686312 ∨ tcL.getD i 0 = 631941 ∨ tcL.getD i 0 = 370116 ∨ tcL.getD i 0 = 2590276 ∨ tcL.getD i 0 = 536633 ∨ tcL.getD i 0 = 12891444 ∨ tcL.getD i 0 = 2603699 ∨ tcL.getD i 0 = 394868 ∨ tcL.getD i 0 = 781652471 ∨ tcL.getD i 0 = 217648292 ∨ tcL.getD i 0 = 1279278 ∨ tcL.getD i 0 = 72564293 ∨ tcL.getD i 0 = 1476 ∨ tcL.getD i 0 = 25779 ∨ tcL.getD i 0 = 463 := by decide +kernel
  have k2 := key i hi
  rw [q] at k2
  omega
/-- the code of a string of the reference, and the class's token of it -/
def scd (s : Nat) : Nat := ([102143553, 6686312, 631941, 370116, 2590276, 536633, 12891444, 2603699, 394868, 781652471, 217648292, 1279278, 1476, 72564293, 25779, 463] : List Nat).getD (s - 28) 0
def stk (s : Nat) : Nat := ([10, 11, 12, 13, 14, 15, 16, 17, 18, 19, 20, 21, 23, 22, 24, 25] : List Nat).getD (s - 28) 0
theorem scd_k : ∀ j, j < 16 → 0 < scd (28 + j) ∧ scd (28 + j) < 2 ^ 30 ∧ tokW (scd (28 + j)) = stk (28 + j) ∧ 10 ≤ stk (28 + j) ∧ stk (28 + j) < 26 := by decide +kernel
theorem scd_ok (s : Nat) (h1 : 28 ≤ s) (h2 : s < 44) : 0 < scd s ∧ scd s < 2 ^ 30 ∧ tokW (scd s) = stk s ∧ 10 ≤ stk s ∧ stk s < 26 := by
  have k := scd_k (s - 28) (by omega)
  rw [show 28 + (s - 28) = s by omega] at k
  exact k
theorem spl_28 (M : Mem) : f_X11_spelled 28 M = some (lN 102143553, M) := by rfl
theorem spl_29 (M : Mem) : f_X11_spelled 29 M = some (lN 6686312, M) := by rfl
theorem spl_30 (M : Mem) : f_X11_spelled 30 M = some (lN 631941, M) := by rfl
theorem spl_31 (M : Mem) : f_X11_spelled 31 M = some (lN 370116, M) := by rfl
theorem spl_32 (M : Mem) : f_X11_spelled 32 M = some (lN 2590276, M) := by rfl
theorem spl_33 (M : Mem) : f_X11_spelled 33 M = some (lN 536633, M) := by rfl
theorem spl_34 (M : Mem) : f_X11_spelled 34 M = some (lN 12891444, M) := by rfl
theorem spl_35 (M : Mem) : f_X11_spelled 35 M = some (lN 2603699, M) := by rfl
theorem spl_36 (M : Mem) : f_X11_spelled 36 M = some (lN 394868, M) := by rfl
theorem spl_37 (M : Mem) : f_X11_spelled 37 M = some (lN 781652471, M) := by rfl
theorem spl_38 (M : Mem) : f_X11_spelled 38 M = some (lN 217648292, M) := by rfl
theorem spl_39 (M : Mem) : f_X11_spelled 39 M = some (lN 1279278, M) := by rfl
theorem spl_40 (M : Mem) : f_X11_spelled 40 M = some (lN 1476, M) := by rfl
theorem spl_41 (M : Mem) : f_X11_spelled 41 M = some (lN 72564293, M) := by rfl
theorem spl_42 (M : Mem) : f_X11_spelled 42 M = some (lN 25779, M) := by rfl
theorem spl_43 (M : Mem) : f_X11_spelled 43 M = some (lN 463, M) := by rfl
theorem spl_f (M : Mem) {s : Nat} (h1 : 28 ≤ s) (h2 : s < 44) : f_X11_spelled s M = some (lN (scd s), M) := by
  have e : s = 28 ∨ s = 29 ∨ s = 30 ∨ s = 31 ∨ s = 32 ∨ s = 33 ∨ s = 34 ∨ s = 35 ∨ s = 36 ∨ s = 37 ∨ s = 38 ∨ s = 39 ∨ s = 40 ∨ s = 41 ∨ s = 42 ∨ s = 43 := by omega
  rcases e with rfl | rfl | rfl | rfl | rfl | rfl | rfl | rfl | rfl | rfl | rfl | rfl | rfl | rfl | rfl | rfl
  · exact spl_28 M
  · exact spl_29 M
  · exact spl_30 M
  · exact spl_31 M
  · exact spl_32 M
  · exact spl_33 M
  · exact spl_34 M
  · exact spl_35 M
  · exact spl_36 M
  · exact spl_37 M
  · exact spl_38 M
  · exact spl_39 M
  · exact spl_40 M
  · exact spl_41 M
  · exact spl_42 M
  · exact spl_43 M
theorem tokW_s {w s : Nat} (h1 : 28 ≤ s) (h2 : s < 44) : tokW w = stk s ↔ w = scd s := by
  constructor
  · intro h
    unfold tokW at h
    have e : s = 28 ∨ s = 29 ∨ s = 30 ∨ s = 31 ∨ s = 32 ∨ s = 33 ∨ s = 34 ∨ s = 35 ∨ s = 36 ∨ s = 37 ∨ s = 38 ∨ s = 39 ∨ s = 40 ∨ s = 41 ∨ s = 42 ∨ s = 43 := by omega
    by_cases c0 : w = 102143553
    · rw [if_pos c0] at h
      rw [c0]
      have k : ∀ j, j < 16 → 10 = stk (28 + j) → 102143553 = scd (28 + j) := by decide +kernel
      have k2 := k (s - 28) (by omega)
      rw [show 28 + (s - 28) = s by omega] at k2
      exact k2 h
    rw [if_neg c0] at h
    by_cases c1 : w = 6686312
    · rw [if_pos c1] at h
      rw [c1]
      have k : ∀ j, j < 16 → 11 = stk (28 + j) → 6686312 = scd (28 + j) := by decide +kernel
      have k2 := k (s - 28) (by omega)
      rw [show 28 + (s - 28) = s by omega] at k2
      exact k2 h
    rw [if_neg c1] at h
    by_cases c2 : w = 631941
    · rw [if_pos c2] at h
      rw [c2]
      have k : ∀ j, j < 16 → 12 = stk (28 + j) → 631941 = scd (28 + j) := by decide +kernel
      have k2 := k (s - 28) (by omega)
      rw [show 28 + (s - 28) = s by omega] at k2
      exact k2 h
    rw [if_neg c2] at h
    by_cases c3 : w = 370116
    · rw [if_pos c3] at h
      rw [c3]
      have k : ∀ j, j < 16 → 13 = stk (28 + j) → 370116 = scd (28 + j) := by decide +kernel
      have k2 := k (s - 28) (by omega)
      rw [show 28 + (s - 28) = s by omega] at k2
      exact k2 h
    rw [if_neg c3] at h
    by_cases c4 : w = 2590276
    · rw [if_pos c4] at h
      rw [c4]
      have k : ∀ j, j < 16 → 14 = stk (28 + j) → 2590276 = scd (28 + j) := by decide +kernel
      have k2 := k (s - 28) (by omega)
      rw [show 28 + (s - 28) = s by omega] at k2
      exact k2 h
    rw [if_neg c4] at h
    by_cases c5 : w = 536633
    · rw [if_pos c5] at h
      rw [c5]
      have k : ∀ j, j < 16 → 15 = stk (28 + j) → 536633 = scd (28 + j) := by decide +kernel
      have k2 := k (s - 28) (by omega)
      rw [show 28 + (s - 28) = s by omega] at k2
      exact k2 h
    rw [if_neg c5] at h
    by_cases c6 : w = 12891444
    · rw [if_pos c6] at h
      rw [c6]
      have k : ∀ j, j < 16 → 16 = stk (28 + j) → 12891444 = scd (28 + j) := by decide +kernel
      have k2 := k (s - 28) (by omega)
      rw [show 28 + (s - 28) = s by omega] at k2
      exact k2 h
    rw [if_neg c6] at h
    by_cases c7 : w = 2603699
    · rw [if_pos c7] at h
      rw [c7]
      have k : ∀ j, j < 16 → 17 = stk (28 + j) → 2603699 = scd (28 + j) := by decide +kernel
      have k2 := k (s - 28) (by omega)
      rw [show 28 + (s - 28) = s by omega] at k2
      exact k2 h
    rw [if_neg c7] at h
    by_cases c8 : w = 394868
    · rw [if_pos c8] at h
      rw [c8]
      have k : ∀ j, j < 16 → 18 = stk (28 + j) → 394868 = scd (28 + j) := by decide +kernel
      have k2 := k (s - 28) (by omega)
      rw [show 28 + (s - 28) = s by omega] at k2
      exact k2 h
    rw [if_neg c8] at h
    by_cases c9 : w = 781652471
    · rw [if_pos c9] at h
      rw [c9]
      have k : ∀ j, j < 16 → 19 = stk (28 + j) → 781652471 = scd (28 + j) := by decide +kernel
      have k2 := k (s - 28) (by omega)
      rw [show 28 + (s - 28) = s by omega] at k2
      exact k2 h
    rw [if_neg c9] at h
    by_cases c10 : w = 217648292
    · rw [if_pos c10] at h
      rw [c10]
      have k : ∀ j, j < 16 → 20 = stk (28 + j) → 217648292 = scd (28 + j) := by decide +kernel
      have k2 := k (s - 28) (by omega)
      rw [show 28 + (s - 28) = s by omega] at k2
      exact k2 h
    rw [if_neg c10] at h
    by_cases c11 : w = 1279278
    · rw [if_pos c11] at h
      rw [c11]
      have k : ∀ j, j < 16 → 21 = stk (28 + j) → 1279278 = scd (28 + j) := by decide +kernel
      have k2 := k (s - 28) (by omega)
      rw [show 28 + (s - 28) = s by omega] at k2
      exact k2 h
    rw [if_neg c11] at h
    by_cases c12 : w = 72564293
    · rw [if_pos c12] at h
      rw [c12]
      have k : ∀ j, j < 16 → 22 = stk (28 + j) → 72564293 = scd (28 + j) := by decide +kernel
      have k2 := k (s - 28) (by omega)
      rw [show 28 + (s - 28) = s by omega] at k2
      exact k2 h
    rw [if_neg c12] at h
    by_cases c13 : w = 1476
    · rw [if_pos c13] at h
      rw [c13]
      have k : ∀ j, j < 16 → 23 = stk (28 + j) → 1476 = scd (28 + j) := by decide +kernel
      have k2 := k (s - 28) (by omega)
      rw [show 28 + (s - 28) = s by omega] at k2
      exact k2 h
    rw [if_neg c13] at h
    by_cases c14 : w = 25779
    · rw [if_pos c14] at h
      rw [c14]
      have k : ∀ j, j < 16 → 24 = stk (28 + j) → 25779 = scd (28 + j) := by decide +kernel
      have k2 := k (s - 28) (by omega)
      rw [show 28 + (s - 28) = s by omega] at k2
      exact k2 h
    rw [if_neg c14] at h
    by_cases c15 : w = 463
    · rw [if_pos c15] at h
      rw [c15]
      have k : ∀ j, j < 16 → 25 = stk (28 + j) → 463 = scd (28 + j) := by decide +kernel
      have k2 := k (s - 28) (by omega)
      rw [show 28 + (s - 28) = s by omega] at k2
      exact k2 h
    rw [if_neg c15] at h
    have k := (scd_ok s h1 h2).2.2.2.1
    omega
  · rintro rfl
    exact (scd_ok s h1 h2).2.2.1
theorem tokW_3 {w : Nat} (h : ∀ s, 28 ≤ s → s < 44 → w ≠ scd s) : tokW w = 3 := by
  unfold tokW
  rw [if_neg (show ¬ w = 102143553 from h 28 (by omega) (by omega))]
  rw [if_neg (show ¬ w = 6686312 from h 29 (by omega) (by omega))]
  rw [if_neg (show ¬ w = 631941 from h 30 (by omega) (by omega))]
  rw [if_neg (show ¬ w = 370116 from h 31 (by omega) (by omega))]
  rw [if_neg (show ¬ w = 2590276 from h 32 (by omega) (by omega))]
  rw [if_neg (show ¬ w = 536633 from h 33 (by omega) (by omega))]
  rw [if_neg (show ¬ w = 12891444 from h 34 (by omega) (by omega))]
  rw [if_neg (show ¬ w = 2603699 from h 35 (by omega) (by omega))]
  rw [if_neg (show ¬ w = 394868 from h 36 (by omega) (by omega))]
  rw [if_neg (show ¬ w = 781652471 from h 37 (by omega) (by omega))]
  rw [if_neg (show ¬ w = 217648292 from h 38 (by omega) (by omega))]
  rw [if_neg (show ¬ w = 1279278 from h 39 (by omega) (by omega))]
  rw [if_neg (show ¬ w = 72564293 from h 41 (by omega) (by omega))]
  rw [if_neg (show ¬ w = 1476 from h 40 (by omega) (by omega))]
  rw [if_neg (show ¬ w = 25779 from h 42 (by omega) (by omega))]
  rw [if_neg (show ¬ w = 463 from h 43 (by omega) (by omega))]
