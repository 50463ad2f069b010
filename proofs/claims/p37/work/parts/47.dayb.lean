/-! what both do to a day -/
def logV (x1 x2 x3 x4 : Int32) (s : Nat → Int32) : Nat → Int32 :=
  let t := upd (upd (upd (upd (shG 113 s 60) 50 x1) 51 x2) 52 x3) 53 x4
  if 16 ≤ t 49 then t else upd t 49 (t 49 + 1)
theorem logs_f (M : Mem) (x1 x2 x3 x4 : Int32) : f_X11_logs x1 x2 x3 x4 M = some (sA M 340 (logV x1 x2 x3 x4 (M.1 340))) := by
  rw [log_r]
  unfold f_X11_logs_b4_s logV
  rw [if_pos (by decide)]
  simp only [bnd_e, sA_set, sA_s]
  generalize upd (upd (upd (upd (shG 113 (M.1 340) 60) 50 x1) 51 x2) 52 x3) 53 x4 = t
  by_cases c : 16 ≤ t 49
  · rw [if_pos c, if_pos c]
  · rw [if_neg c, if_neg c]
theorem upd_s (d : Nat → Int32) (k : Nat) (x : Int32) : upd d k x k = x := if_pos rfl
theorem upd_n (d : Nat → Int32) {k j : Nat} (x : Int32) (h : j ≠ k) : upd d k x j = d j := if_neg h
theorem logV_at (x1 x2 x3 x4 : Int32) (s : Nat → Int32) (k : Nat) : logV x1 x2 x3 x4 s k = if k = 49 then (if 16 ≤ s 49 then s 49 else s 49 + 1) else if k = 50 then x1 else if k = 51 then x2 else if k = 52 then x3 else if k = 53 then x4 else if 53 < k ∧ k ≤ 113 then s (k - 4) else s k := by
  have e49 : upd (upd (upd (upd (shG 113 s 60) 50 x1) 51 x2) 52 x3) 53 x4 49 = s 49 := rfl
  have en : ∀ k, upd (upd (upd (upd (shG 113 s 60) 50 x1) 51 x2) 52 x3) 53 x4 k = if k = 53 then x4 else if k = 52 then x3 else if k = 51 then x2 else if k = 50 then x1 else if 53 < k ∧ k ≤ 113 then s (k - 4) else s k := fun k => rfl
  have all : k ≠ 49 → logV x1 x2 x3 x4 s k = upd (upd (upd (upd (shG 113 s 60) 50 x1) 51 x2) 52 x3) 53 x4 k := fun h => by
    have z : logV x1 x2 x3 x4 s = if 16 ≤ (upd (upd (upd (upd (shG 113 s 60) 50 x1) 51 x2) 52 x3) 53 x4) 49 then upd (upd (upd (upd (shG 113 s 60) 50 x1) 51 x2) 52 x3) 53 x4 else upd (upd (upd (upd (upd (shG 113 s 60) 50 x1) 51 x2) 52 x3) 53 x4) 49 ((upd (upd (upd (upd (shG 113 s 60) 50 x1) 51 x2) 52 x3) 53 x4) 49 + 1) := rfl
    rw [z]
    split
    · rfl
    · exact upd_n _ _ h
  by_cases h : k = 49
  · rw [if_pos h, h]
    have z : logV x1 x2 x3 x4 s = if 16 ≤ (upd (upd (upd (upd (shG 113 s 60) 50 x1) 51 x2) 52 x3) 53 x4) 49 then upd (upd (upd (upd (shG 113 s 60) 50 x1) 51 x2) 52 x3) 53 x4 else upd (upd (upd (upd (upd (shG 113 s 60) 50 x1) 51 x2) 52 x3) 53 x4) 49 ((upd (upd (upd (upd (shG 113 s 60) 50 x1) 51 x2) 52 x3) 53 x4) 49 + 1) := rfl
    rw [z, e49]
    by_cases c : 16 ≤ s 49
    · rw [if_pos c, if_pos c, e49]
    · rw [if_neg c, if_neg c, upd_s]
  · rw [if_neg h, all h, en]
    by_cases h0 : k = 50
    · rw [if_neg (by omega), if_neg (by omega), if_neg (by omega), if_pos h0, if_pos h0]
    by_cases h1 : k = 51
    · rw [if_neg (by omega), if_neg (by omega), if_pos h1, if_neg h0, if_pos h1]
    by_cases h2 : k = 52
    · rw [if_neg (by omega), if_pos h2, if_neg h0, if_neg h1, if_pos h2]
    by_cases h3 : k = 53
    · rw [if_pos h3, if_neg h0, if_neg h1, if_neg h2, if_pos h3]
    rw [if_neg h3, if_neg h2, if_neg h1, if_neg h0, if_neg h0, if_neg h1, if_neg h2, if_neg h3]
theorem lg_up : ∀ j, j ≤ 16 → (j < 16 → (min32 (nI j + 1) 16).toNatClampNeg = j + 1) ∧ (j = 16 → (min32 (nI j + 1) 16).toNatClampNeg = 16) := by decide +kernel
theorem min_log : ∀ j, j ≤ 16 → min32 (nI j + 1) 16 = (if 16 ≤ nI j then nI j else nI j + 1) ∧ ∃ i, i ≤ 16 ∧ min32 (nI j + 1) 16 = nI i := by
  have k : ∀ j, j ≤ 16 → min32 (nI j + 1) 16 = (if 16 ≤ nI j then nI j else nI j + 1) ∧ min32 (nI j + 1) 16 = nI (if j = 16 then 16 else j + 1) := by decide +kernel
  intro j hj
  refine ⟨(k j hj).1, _, ?_, (k j hj).2⟩
  split <;> omega
/-- a change of the day at n alone -/
def OffD (n : Nat) (M M' : Mem) : Prop := M'.2 = M.2 ∧ ∀ a, a < n ∨ n + 5 < a → M'.1 a = M.1 a
theorem OffD.tr {n : Nat} {M M' M'' : Mem} (h : OffD n M M') (h' : OffD n M' M'') : OffD n M M'' := ⟨h'.1.trans h.1, fun a ha => (h'.2 a ha).trans (h.2 a ha)⟩
theorem OffD.refl (n : Nat) (M : Mem) : OffD n M M := ⟨rfl, fun _ _ => rfl⟩
theorem OffD.cn {n : Nat} (hn : DN n) {M M' : Mem} (h : OffD n M M') (i : Nat) : Cn M' i = Cn M i := by
  have := dn_rng hn
  unfold Cn
  rw [h.2 313 (by omega)]
theorem addLog_f {n : Nat} (hn : DN n) {M : Mem} {s : Nat → Int32} (R : RDay M n s) (c4 : Cn M 4 ≤ 8) (x1 x2 x3 x4 : Int32) : ∃ M', f_X3_addLog n x1 x2 x3 x4 M = some M' ∧ RDay M' n (logV x1 x2 x3 x4 s) ∧ OffD n M M' ∧ ∀ a k, a ≠ n + 5 → (a = n → k ≠ 9) → M'.1 a k = M.1 a k := by
  obtain ⟨t1, -, -, -, -, t2⟩ := dn_all hn
  have rg := dn_rng hn
  refine ⟨setI (sA M (n + 5) (upd (upd (upd (upd (shG 63 (M.1 (n + 5)) 60) 0 x1) 1 x2) 2 x3) 3 x4)) n 9 (min32 (M.1 n 9 + 1) 16), ?_, ?_, ?_, ?_⟩
  · rw [log_c hn]
    unfold f_X3_addLog_b4_s
    rw [if_pos (by decide), gd_t t1]
    simp only [bnd_e, t2, sA_set, sA_n M _ 9 (show n ≠ n + 5 by omega)]
  · have row5 : ∀ k, (setI (sA M (n + 5) (upd (upd (upd (upd (shG 63 (M.1 (n + 5)) 60) 0 x1) 1 x2) 2 x3) 3 x4)) n 9 (min32 (M.1 n 9 + 1) 16)).1 (n + 5) k = if k = 3 then x4 else if k = 2 then x3 else if k = 1 then x2 else if k = 0 then x1 else if 3 < k ∧ k ≤ 63 then M.1 (n + 5) (k - 4) else M.1 (n + 5) k := fun k => by
      rw [setI_1, if_neg (fun z => by omega), sA_s]; rfl
    have rown : ∀ a k, a ≠ n + 5 → (a = n → k ≠ 9) → (setI (sA M (n + 5) (upd (upd (upd (upd (shG 63 (M.1 (n + 5)) 60) 0 x1) 1 x2) 2 x3) 3 x4)) n 9 (min32 (M.1 n 9 + 1) 16)).1 a k = M.1 a k := fun a k h1 h2 => by
      rw [setI_1, if_neg (fun z => h2 z.1 z.2), sA_n M _ k h1]
    have row9 : (setI (sA M (n + 5) (upd (upd (upd (upd (shG 63 (M.1 (n + 5)) 60) 0 x1) 1 x2) 2 x3) 3 x4)) n 9 (min32 (M.1 n 9 + 1) 16)).1 n 9 = min32 (M.1 n 9 + 1) 16 := by rw [setI_1, if_pos ⟨rfl, rfl⟩]
    have cn4 : Cn (setI (sA M (n + 5) (upd (upd (upd (upd (shG 63 (M.1 (n + 5)) 60) 0 x1) 1 x2) 2 x3) 3 x4)) n 9 (min32 (M.1 n 9 + 1) 16)) 4 = Cn M 4 := by
      unfold Cn; rw [rown 313 4 (by omega) (by omega)]
    have cn1 : Cn (setI (sA M (n + 5) (upd (upd (upd (upd (shG 63 (M.1 (n + 5)) 60) 0 x1) 1 x2) 2 x3) 3 x4)) n 9 (min32 (M.1 n 9 + 1) 16)) 1 = Cn M 1 := by
      unfold Cn; rw [rown 313 1 (by omega) (by omega)]
    generalize setI (sA M (n + 5) (upd (upd (upd (upd (shG 63 (M.1 (n + 5)) 60) 0 x1) 1 x2) 2 x3) 3 x4)) n 9 (min32 (M.1 n 9 + 1) 16) = M' at row5 rown row9 cn4 cn1 ⊢
    have low : ∀ k, k < 49 → logV x1 x2 x3 x4 s k = s k := fun k hk => by
      rw [logV_at, if_neg (by omega), if_neg (by omega), if_neg (by omega), if_neg (by omega), if_neg (by omega), if_neg (by omega)]
    obtain ⟨⟨hh, h1, h2, h3, c, r, b, h4, h5, h6, h7⟩, g2, g3, g4, ⟨j, hj, g5, g5'⟩, g6⟩ := R
    unfold RDay
    rw [cn4, cn1]
    refine ⟨⟨hh, h1, by rw [rown n 0 (by omega) (by omega)]; exact h2, by rw [low 0 (by omega)]; exact h3, c, r, b, h4, by rw [rown n 1 (by omega) (by omega), rown n 2 (by omega) (by omega), rown n 3 (by omega) (by omega)]; exact h5, fun p hp => ?_, fun p hp hp8 => ?_⟩, fun k hk => ?_, fun k hk => ?_, fun p hp => ?_, ?_, fun k hk => ?_⟩
    · rw [low (1 + p) (by omega), low (9 + p) (by omega), low (17 + p) (by omega), low (25 + p) (by omega), rown (n + 1) p (by omega) (by omega)]
      exact h6 p hp
    · rw [low (9 + p) (by omega), low (17 + p) (by omega), low (25 + p) (by omega)]
      exact h7 p hp hp8
    · rw [rown (n + 2) k (by omega) (by omega), low (33 + k) (by omega)]; exact g2 k hk
    · rw [rown (n + 3) k (by omega) (by omega), low (37 + k) (by omega)]; exact g3 k hk
    · rw [rown (n + 4) p (by omega) (by omega), low (41 + p) (by omega)]; exact g4 p hp
    · obtain ⟨m1, i, hi, m2⟩ := min_log j hj
      refine ⟨i, hi, by rw [row9, g5, m2], ?_⟩
      rw [logV_at, if_pos rfl, g5', ← m1, m2]
    · have lg := lg_up j hj
      rw [g5] at g6
      by_cases far : 4 * (nI j).toNatClampNeg ≤ k - 4 ∧ 4 ≤ k
      · left
        rw [row9, g5]
        rw [nI_clamp (by omega)] at far
        omega
      right
      rw [row5 k, logV_at, if_neg (show ¬ 50 + k = 49 by omega)]
      by_cases k3 : k = 3
      · rw [if_pos k3, if_neg (by omega), if_neg (by omega), if_neg (by omega), if_pos (by omega)]
      by_cases k2 : k = 2
      · rw [if_neg k3, if_pos k2, if_neg (by omega), if_neg (by omega), if_pos (by omega)]
      by_cases k1 : k = 1
      · rw [if_neg k3, if_neg k2, if_pos k1, if_neg (by omega), if_pos (by omega)]
      by_cases k0 : k = 0
      · rw [if_neg k3, if_neg k2, if_neg k1, if_pos k0, if_pos (by omega)]
      rw [if_neg k3, if_neg k2, if_neg k1, if_neg k0, if_pos (by omega), if_neg (by omega), if_neg (by omega), if_neg (by omega), if_neg (by omega), if_pos (by omega), (g6 (k - 4) (by omega)).resolve_left (fun z => far ⟨z, by omega⟩)]
      congr 1
      omega
  · refine ⟨rfl, fun a ha => funext (fun k => ?_)⟩
    rw [setI_1, if_neg (fun z => by omega), sA_n M _ k (by omega)]
  · intro a k h1 h2
    rw [setI_1, if_neg (fun z => h2 z.1 z.2), sA_n M _ k h1]
