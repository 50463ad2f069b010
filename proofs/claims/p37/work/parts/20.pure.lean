/-! PURE ROWS for the decompiled methods -/
theorem cl_s {α β : Type} (a : α) (m : Mem) (f : α → Mem → Option β) : cl (some (a, m)) f = f a m := rfl
theorem clv_s {β : Type} (m : Mem) (f : Mem → Option β) : clv (some m) f = f m := rfl
theorem bnd_e {α β : Type} (v : α) (f : α → Option β) : bnd v f = f v := rfl
theorem gd_t {α : Type} {c : Prop} [Decidable c] {a : Option α} (h : c) : gd c a = a := if_pos h
theorem lpN_s {F : Type} (z : F) (s : F → F) (n : Nat) : lpN z s (n + 1) = s (lpN z s n) := rfl
/-- a loop whose states are told by a number -/
theorem lp_for {F R : Type} {z : F} {s : F → F} (app : Nat → F → R) (n : Nat) (res : R) (hs : ∀ i, i < n → ∀ f, app i (s f) = app (i + 1) f) (hx : ∀ f, app n (s f) = res) (k : Nat) (hk : n < k) : app 0 (lpN z s k) = res := by
  have h : ∀ d, d ≤ n → ∀ k, d < k → app (n - d) (lpN z s k) = res := by
    intro d
    induction d with
    | zero =>
      intro _ k hk
      obtain ⟨j, rfl⟩ : ∃ j, k = j + 1 := ⟨k - 1, by omega⟩
      exact hx _
    | succ d ih =>
      intro hd k hk
      obtain ⟨j, rfl⟩ : ∃ j, k = j + 1 := ⟨k - 1, by omega⟩
      rw [lpN_s, hs (n - (d + 1)) (by omega), show n - (d + 1) + 1 = n - d by omega]
      exact ih (by omega) j (by omega)
  have := h n (Nat.le_refl n) k hk
  rwa [Nat.sub_self] at this
theorem within32 (x a b : Int32) (M : Mem) : f_X11_within x.toInt64 a.toInt64 b.toInt64 M = some (if a ≤ x ∧ x ≤ b then 1 else 0, M) := by
  unfold f_X11_within
  by_cases h1 : x < a
  · rw [if_pos ((lg_cmp_lt _ _).mpr (Int32.toInt64_lt.mpr h1)), if_neg (fun z => absurd z.1 (Int32.not_le.mpr h1))]
  · rw [if_neg (fun z => h1 (Int32.toInt64_lt.mp ((lg_cmp_lt _ _).mp z)))]
    by_cases h2 : b < x
    · rw [if_pos ((lg_cmp_gt _ _).mpr (Int32.toInt64_lt.mpr h2)), if_neg (fun z => absurd z.2 (Int32.not_le.mpr h2))]
    · rw [if_neg (fun z => h2 (Int32.toInt64_lt.mp ((lg_cmp_gt _ _).mp z))), if_pos ⟨Int32.not_lt.mp h1, Int32.not_lt.mp h2⟩]
theorem nI_mul' (a b : Nat) : nI a * nI b = nI (a * b) := (Int32.ofNat_mul a b).symm
/-- a number from 0 on below a count -/
theorem idx_of {x : Int32} {n : Nat} (hn : n < 2 ^ 31) (h0 : ¬ x < 0) (h1 : x < nI n) : ∃ i, i < n ∧ x = nI i := by
  obtain ⟨j, hj, rfl⟩ := nI_of h0
  exact ⟨j, (nI_ltI hj hn).mp h1, rfl⟩
theorem inb_nI {i n : Nat} (h : i < n) (hn : n < 2 ^ 31) : inb (nI i) n := vp_in_nI h hn
/-- within 0 .. n - 1 -/
theorem within_n {x : Int32} {n : Nat} (hn : n < 2 ^ 31) (M : Mem) : f_X11_within x.toInt64 0 (nI n - 1).toInt64 M = some (if ¬ x < 0 ∧ x < nI n then 1 else 0, M) := by
  rw [show (0 : Int64) = (0 : Int32).toInt64 from rfl, within32]
  congr 2
  have h : (0 ≤ x ∧ x ≤ nI n - 1) ↔ (¬ x < 0 ∧ x < nI n) := by
    rw [Int32.not_lt]
    cases n with
    | zero =>
      have e1 : nI 0 - 1 = -1 := by decide
      rw [e1]
      simp only [Int32.le_iff_toInt_le, Int32.lt_iff_toInt_lt]
      have : (nI 0).toInt = 0 := by decide
      have h2 : (0 : Int32).toInt = 0 := by decide
      have h3 : (-1 : Int32).toInt = -1 := by decide
      rw [this, h2, h3]
      omega
    | succ m =>
      rw [nI_pred]
      simp only [Int32.le_iff_toInt_le, Int32.lt_iff_toInt_lt]
      rw [nI_toInt (by omega), nI_toInt hn]
      have h2 : (0 : Int32).toInt = 0 := by decide
      rw [h2]
      omega
  by_cases h1 : (0 ≤ x ∧ x ≤ nI n - 1)
  · rw [if_pos h1, if_pos (h.mp h1)]
  · rw [if_neg h1, if_neg (fun z => h1 (h.mpr z))]
theorem setI_1 (M : Mem) (n k : Nat) (x : Int32) (a j : Nat) : (setI M n k x).1 a j = if a = n ∧ j = k then x else M.1 a j := rfl
theorem setI_2 (M : Mem) (n k : Nat) (x : Int32) : (setI M n k x).2 = M.2 := rfl
theorem setL_1 (M : Mem) (n k : Nat) (x : Int64) : (setL M n k x).1 = M.1 := rfl
theorem setL_2 (M : Mem) (n k : Nat) (x : Int64) (a j : Nat) : (setL M n k x).2.1 a j = if a = n ∧ j = k then x else M.2.1 a j := rfl
theorem setL_3 (M : Mem) (n k : Nat) (x : Int64) : (setL M n k x).2.2 = M.2.2 := rfl
theorem setR_1 (M : Mem) (n k x : Nat) : (setR M n k x).1 = M.1 := rfl
theorem setR_2 (M : Mem) (n k x : Nat) : (setR M n k x).2.1 = M.2.1 := rfl
theorem setR_3 (M : Mem) (n k x : Nat) (a j : Nat) : (setR M n k x).2.2.1 a j = if a = n ∧ j = k then x else M.2.2.1 a j := rfl
theorem setR_4 (M : Mem) (n k x : Nat) : (setR M n k x).2.2.2 = M.2.2.2 := rfl
/-! bits -/
theorem shr_nI {n k : Nat} (hn : n < 2 ^ 31) (hk : k < 32) : nI n >>> (nI k &&& 31) = nI (n / 2 ^ k) := pk_shrN hn _ k (s_l k hk)
theorem and1_nI {n : Nat} : nI n &&& 1 = nI (n % 2) := by
  rw [show (1 : Int32) = nI (2 ^ 1 - 1) from rfl, fa_mask]
/-- a bit of a small set -/
theorem bit_nI {n k : Nat} (hn : n < 2 ^ 31) (hk : k < 32) : (nI n >>> (nI k &&& 31)) &&& 1 = nI (if n.testBit k then 1 else 0) := by
  rw [shr_nI hn hk, and1_nI]
  congr 1
  rw [Nat.testBit_eq_decide_div_mod_eq]
  have : n / 2 ^ k % 2 < 2 := Nat.mod_lt _ (by decide)
  by_cases h : n / 2 ^ k % 2 = 1
  · rw [if_pos (by simp [h])]; exact h
  · rw [if_neg (by simp [h])]; omega
theorem has_f {n k : Nat} (hn : n < 2 ^ 31) (hk : k < 32) (M : Mem) : f_X11_has (nI n) (nI k) M = some (if n.testBit k then 1 else 0, M) := by
  unfold f_X11_has
  rw [bit_nI hn hk]
  by_cases h : n.testBit k = true
  · rw [if_pos h, if_pos h, if_pos (by decide)]
  · rw [if_neg h, if_neg h, if_neg (by decide)]
