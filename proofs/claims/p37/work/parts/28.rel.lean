/-! THE RELATION of the class's half of the memory to the reference's -/
abbrev mi (M : Mem) (a k : Nat) : Int32 := M.1 a k
abbrev ml (M : Mem) (a k : Nat) : Int64 := M.2.1 a k
abbrev mr (M : Mem) (a k : Nat) : Nat := M.2.2.1 a k
def TT (T : Nat) : Prop := T = 66 ∨ T = 137
/-- how many of a sort the reference has: 0 cameras, 1 sides, 2 kinds, 3 boards, 4 plays, 5 flashes -/
def Cn (M : Mem) (s : Nat) : Nat := (M.1 313 s).toNatClampNeg
/-- frames of a play, pairs of a kind, members of a board -/
def Fn (M : Mem) (p : Nat) : Nat := (M.1 335 p).toNatClampNeg
def Pn (M : Mem) (k : Nat) : Nat := (M.1 324 k).toNatClampNeg
def Bn (M : Mem) (b : Nat) : Nat := (M.1 328 b).toNatClampNeg
/-- the reference's own data are in their bounds -/
def MOk (M : Mem) : Prop :=
  ((M.1 313 0 = nI (Cn M 0) ∧ Cn M 0 ≤ 5) ∧ (M.1 313 1 = nI (Cn M 1) ∧ Cn M 1 ≤ 4) ∧ (M.1 313 2 = nI (Cn M 2) ∧ Cn M 2 ≤ 5) ∧ (M.1 313 3 = nI (Cn M 3) ∧ Cn M 3 ≤ 3) ∧ (M.1 313 4 = nI (Cn M 4) ∧ Cn M 4 ≤ 8) ∧ (M.1 313 5 = nI (Cn M 5) ∧ Cn M 5 ≤ 6)) ∧
  (∀ c, c < Cn M 0 → 0 ≤ (M.1 317 c).toInt ∧ (M.1 317 c).toInt ≤ (M.1 318 c).toInt ∧ (M.1 318 c).toInt ≤ 999) ∧
  (∀ f, f < Cn M 5 → (∃ a b, a < Cn M 0 ∧ b < Cn M 0 ∧ a ≠ b ∧ M.1 319 (4 * f) = nI a ∧ M.1 319 (4 * f + 2) = nI b) ∧ 0 ≤ (M.1 319 (4 * f + 1)).toInt ∧ (M.1 319 (4 * f + 1)).toInt ≤ 999 ∧ 0 ≤ (M.1 319 (4 * f + 3)).toInt ∧ (M.1 319 (4 * f + 3)).toInt ≤ 999) ∧
  (∀ k, k < Cn M 1 → 0 ≤ (M.1 320 k).toInt ∧ (M.1 320 k).toInt ≤ 9) ∧
  (∀ k, k < Cn M 2 → (1 ≤ (M.1 321 k).toInt ∧ (M.1 321 k).toInt ≤ 60) ∧ (M.1 322 k = 0 ∨ M.1 322 k = 1) ∧ (M.1 323 k = 0 ∨ M.1 323 k = 1) ∧ (M.1 324 k = nI (Pn M k) ∧ 1 ≤ Pn M k ∧ Pn M k ≤ 3) ∧ ∀ i, i < Pn M k → ∃ a b, a < 4 ∧ b < 4 ∧ a ≠ b ∧ M.1 325 (3 * k + i) = nI a ∧ M.1 326 (3 * k + i) = nI b) ∧
  (∀ b, b < Cn M 3 → (1 ≤ (M.1 327 b).toInt ∧ (M.1 327 b).toInt ≤ 9) ∧ (M.1 328 b = nI (Bn M b) ∧ Bn M b ≤ 7) ∧ ∀ i, i < Bn M b → ∃ s, s < 2 ^ Cn M 0 ∧ M.1 329 (7 * b + i) = nI s) ∧
  (∀ p, p < Cn M 4 → (0 ≤ (M.1 330 p).toInt ∧ (M.1 330 p).toInt ≤ 999) ∧ (∃ k, k < Cn M 2 ∧ M.1 331 p = nI k) ∧ (∃ s, s < Cn M 1 ∧ M.1 332 p = nI s) ∧ (0 ≤ (M.1 333 p).toInt ∧ (M.1 333 p).toInt ≤ 99) ∧ (M.1 334 p = 0 ∨ M.1 334 p = 1) ∧ (M.1 335 p = nI (Fn M p) ∧ Fn M p ≤ 10) ∧
    ∀ k, k < Fn M p → (∃ c, c < Cn M 0 ∧ M.1 336 (10 * p + k) = nI c) ∧ (0 ≤ (M.1 337 (10 * p + k)).toInt ∧ (M.1 337 (10 * p + k)).toInt ≤ 999) ∧ (∃ s, s < 16 ∧ M.1 338 (10 * p + k) = nI s) ∧ ∃ s, s < 16 ∧ M.1 339 (10 * p + k) = nI s) ∧
  (∀ p, p + 1 < Cn M 4 → (M.1 330 p).toInt ≤ (M.1 330 (p + 1)).toInt) ∧
  ((0 ≤ (M.1 314 0).toInt ∧ (M.1 314 0).toInt ≤ 999) ∧ (0 ≤ (M.1 314 1).toInt ∧ (M.1 314 1).toInt ≤ 9) ∧ (0 ≤ (M.1 314 2).toInt ∧ (M.1 314 2).toInt ≤ 1000) ∧ (0 ≤ (M.1 314 3).toInt ∧ (M.1 314 3).toInt ≤ 9))
/-- what is told: the class's Told at T holds what the reference holds -/
def RTold (M : Mem) (T : Nat) : Prop :=
  (M.1 T 0 = M.1 313 0 ∧ M.1 T 5 = M.1 313 1 ∧ M.1 T 7 = M.1 313 2 ∧ M.1 T 9 = M.1 313 3 ∧ M.1 T 11 = M.1 313 4 ∧ M.1 T 3 = M.1 313 5) ∧
  (∀ c, c < Cn M 0 → M.1 (T + 1) c = M.1 317 c ∧ M.1 (T + 2) c = M.1 318 c) ∧
  (∀ k, k < Cn M 1 → M.1 (T + 5) k = M.1 320 k) ∧
  (∀ k, k < Cn M 2 → M.1 (T + 10 + 3 * k) 0 = M.1 321 k ∧ M.1 (T + 10 + 3 * k) 1 = M.1 322 k ∧ M.1 (T + 10 + 3 * k) 2 = M.1 323 k ∧ M.1 (T + 10 + 3 * k) 3 = M.1 324 k ∧ ∀ i, i < Pn M k → M.1 (T + 11 + 3 * k) i = M.1 325 (3 * k + i) ∧ M.1 (T + 12 + 3 * k) i = M.1 326 (3 * k + i)) ∧
  (∀ b, b < Cn M 3 → M.1 (T + 25 + 2 * b) 0 = M.1 327 b ∧ M.1 (T + 25 + 2 * b) 1 = M.1 328 b ∧ ∀ i, i < Bn M b → M.1 (T + 26 + 2 * b) i = M.1 329 (7 * b + i)) ∧
  (∀ p, p < Cn M 4 → M.1 (T + 31 + 5 * p) 0 = M.1 330 p ∧ M.1 (T + 31 + 5 * p) 1 = M.1 331 p ∧ M.1 (T + 31 + 5 * p) 2 = M.1 332 p ∧ M.1 (T + 31 + 5 * p) 3 = M.1 333 p ∧ M.1 (T + 31 + 5 * p) 4 = M.1 334 p ∧ M.1 (T + 31 + 5 * p) 5 = M.1 335 p ∧
    ∀ k, k < Fn M p → M.1 (T + 32 + 5 * p) k = M.1 336 (10 * p + k) ∧ M.1 (T + 33 + 5 * p) k = M.1 337 (10 * p + k) ∧ M.1 (T + 34 + 5 * p) k = M.1 338 (10 * p + k) ∧ M.1 (T + 35 + 5 * p) k = M.1 339 (10 * p + k)) ∧
  (∀ k, k < 4 → M.1 (T + 9) k = M.1 314 k)
/-! where things stand in a Told -/
theorem tt_all {P : Nat → Prop} {T : Nat} (h : TT T) (h1 : P 66) (h2 : P 137) : P T := by
  rcases h with rfl | rfl <;> assumption
theorem tt_0 {T : Nat} (h : TT T) : shc T = 8 := tt_all (P := fun T => shc T = 8) h (by decide +kernel) (by decide +kernel)
theorem tt_r {T : Nat} (h : TT T) : cr T 1 = T + 1 ∧ cr T 2 = T + 2 ∧ cr T 4 = T + 3 ∧ cr (T + 3) 0 = T + 4 ∧ cr T 6 = T + 5 ∧ cr T 8 = T + 6 ∧ cr T 10 = T + 7 ∧ cr T 12 = T + 8 ∧ cr T 13 = T + 9 := tt_all (P := fun T => cr T 1 = T + 1 ∧ cr T 2 = T + 2 ∧ cr T 4 = T + 3 ∧ cr (T + 3) 0 = T + 4 ∧ cr T 6 = T + 5 ∧ cr T 8 = T + 6 ∧ cr T 10 = T + 7 ∧ cr T 12 = T + 8 ∧ cr T 13 = T + 9) h (by decide +kernel) (by decide +kernel)
theorem tt_k {T : Nat} (h : TT T) : ∀ k, k < 5 → cr (T + 6) k = T + 10 + 3 * k ∧ cr (T + 10 + 3 * k) 4 = T + 11 + 3 * k ∧ cr (T + 10 + 3 * k) 5 = T + 12 + 3 * k ∧ shc (T + 10 + 3 * k) = 5 := tt_all (P := fun T => ∀ k, k < 5 → cr (T + 6) k = T + 10 + 3 * k ∧ cr (T + 10 + 3 * k) 4 = T + 11 + 3 * k ∧ cr (T + 10 + 3 * k) 5 = T + 12 + 3 * k ∧ shc (T + 10 + 3 * k) = 5) h (by decide +kernel) (by decide +kernel)
theorem tt_b {T : Nat} (h : TT T) : ∀ k, k < 3 → cr (T + 7) k = T + 25 + 2 * k ∧ cr (T + 25 + 2 * k) 2 = T + 26 + 2 * k ∧ shc (T + 25 + 2 * k) = 1 := tt_all (P := fun T => ∀ k, k < 3 → cr (T + 7) k = T + 25 + 2 * k ∧ cr (T + 25 + 2 * k) 2 = T + 26 + 2 * k ∧ shc (T + 25 + 2 * k) = 1) h (by decide +kernel) (by decide +kernel)
theorem tt_p {T : Nat} (h : TT T) : ∀ p, p < 8 → cr (T + 8) p = T + 31 + 5 * p ∧ cr (T + 31 + 5 * p) 6 = T + 32 + 5 * p ∧ cr (T + 31 + 5 * p) 7 = T + 33 + 5 * p ∧ cr (T + 31 + 5 * p) 8 = T + 34 + 5 * p ∧ cr (T + 31 + 5 * p) 9 = T + 35 + 5 * p ∧ shc (T + 31 + 5 * p) = 6 := tt_all (P := fun T => ∀ p, p < 8 → cr (T + 8) p = T + 31 + 5 * p ∧ cr (T + 31 + 5 * p) 6 = T + 32 + 5 * p ∧ cr (T + 31 + 5 * p) 7 = T + 33 + 5 * p ∧ cr (T + 31 + 5 * p) 8 = T + 34 + 5 * p ∧ cr (T + 31 + 5 * p) 9 = T + 35 + 5 * p ∧ shc (T + 31 + 5 * p) = 6) h (by decide +kernel) (by decide +kernel)
theorem tt_c {T : Nat} (h : TT T) : shc (T + 3) = 2 ∧ T + 70 < 211 ∧ 66 ≤ T := tt_all (P := fun T => shc (T + 3) = 2 ∧ T + 70 < 211 ∧ 66 ≤ T) h (by decide +kernel) (by decide +kernel)
