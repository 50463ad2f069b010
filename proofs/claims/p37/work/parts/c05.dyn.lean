/-! CELLS MADE LATER (p37): code and length of cell n stand in row 0 of the references, at 2n and 2n+1; at 1 the slots used -/
def dsc (M : Mem) (n : Nat) : Nat := M.2.2.1 0 (2 * n)
def dln (M : Mem) (n : Nat) : Nat := M.2.2.1 0 (2 * n + 1)
def shq (M : Mem) (n : Nat) : Nat := if n < 1000 then shc n else dsc M n
def slq (M : Mem) (n : Nat) : Nat := if n < 1000 then shl n else dln M n
/-- the next cell's address, how many cells stand, how many slots were used -/
def nn (M : Mem) : Nat := M.2.2.2 + 753
def szM (M : Mem) : Nat := M.2.2.1 0 1
/-- a new cell at n: code, length, slots -/
def nwX (n c len s : Nat) (M : Mem) : Mem := (fun a => if a = n then fun _ => 0 else M.1 a, fun a => if a = n then fun _ => 0 else M.2.1 a, fun a k => if a = n then 0 else if a = 0 ∧ k = 2 * n then c else if a = 0 ∧ k = 2 * n + 1 then len else if a = 0 ∧ k = 1 then M.2.2.1 0 1 + s else M.2.2.1 a k, M.2.2.2 + 1)
def nwA (c len s : Nat) (M : Mem) : Mem := nwX (nn M) c len s M
section DYX
variable {n c len s : Nat} {M : Mem}
theorem nwX_cn : (nwX n c len s M).2.2.2 = M.2.2.2 + 1 := rfl
theorem nwX_I {a : Nat} (h : a ≠ n) : (nwX n c len s M).1 a = M.1 a := if_neg h
theorem nwX_Is : (nwX n c len s M).1 n = fun _ => 0 := if_pos rfl
theorem nwX_L {a : Nat} (h : a ≠ n) : (nwX n c len s M).2.1 a = M.2.1 a := if_neg h
theorem nwX_Ls : (nwX n c len s M).2.1 n = fun _ => 0 := if_pos rfl
theorem nwX_R {a : Nat} (h : a ≠ n) (h0 : a ≠ 0) : (nwX n c len s M).2.2.1 a = M.2.2.1 a := funext (fun k => by
  show (if a = n then 0 else if a = 0 ∧ k = 2 * n then c else if a = 0 ∧ k = 2 * n + 1 then len else if a = 0 ∧ k = 1 then M.2.2.1 0 1 + s else M.2.2.1 a k) = _
  rw [if_neg h, if_neg (fun z => h0 z.1), if_neg (fun z => h0 z.1), if_neg (fun z => h0 z.1)])
theorem nwX_Rs (k : Nat) : (nwX n c len s M).2.2.1 n k = 0 := if_pos rfl
theorem nwX_0 (k : Nat) (hn : 0 < n) : (nwX n c len s M).2.2.1 0 k = if k = 2 * n then c else if k = 2 * n + 1 then len else if k = 1 then M.2.2.1 0 1 + s else M.2.2.1 0 k := by
  show (if 0 = n then 0 else if 0 = 0 ∧ k = 2 * n then c else if 0 = 0 ∧ k = 2 * n + 1 then len else if 0 = 0 ∧ k = 1 then M.2.2.1 0 1 + s else M.2.2.1 0 k) = _
  rw [if_neg (by omega)]
  simp only [true_and]
end DYX
theorem nn_p (M : Mem) : 0 < nn M := Nat.lt_of_lt_of_le (by decide : 0 < 753) (Nat.le_add_left 753 _)
section DYN
variable {c len s : Nat} {M : Mem}
theorem nwA_cn : (nwA c len s M).2.2.2 = M.2.2.2 + 1 := rfl
theorem nwA_I {a : Nat} (h : a ≠ nn M) : (nwA c len s M).1 a = M.1 a := nwX_I h
theorem nwA_Is : (nwA c len s M).1 (nn M) = fun _ => 0 := nwX_Is
theorem nwA_L {a : Nat} (h : a ≠ nn M) : (nwA c len s M).2.1 a = M.2.1 a := nwX_L h
theorem nwA_Ls : (nwA c len s M).2.1 (nn M) = fun _ => 0 := nwX_Ls
theorem nwA_R {a : Nat} (h : a ≠ nn M) (h0 : a ≠ 0) : (nwA c len s M).2.2.1 a = M.2.2.1 a := nwX_R h h0
theorem nwA_Rs (k : Nat) : (nwA c len s M).2.2.1 (nn M) k = 0 := nwX_Rs k
theorem nwA_R0 {k : Nat} (h1 : k ≠ 2 * nn M) (h2 : k ≠ 2 * nn M + 1) (h3 : k ≠ 1) : (nwA c len s M).2.2.1 0 k = M.2.2.1 0 k := by
  unfold nwA
  rw [nwX_0 k (nn_p M), if_neg h1, if_neg h2, if_neg h3]
theorem nwA_ds : dsc (nwA c len s M) (nn M) = c := by
  unfold dsc nwA
  rw [nwX_0 _ (nn_p M), if_pos rfl]
theorem nwA_dl : dln (nwA c len s M) (nn M) = len := by
  have := nn_p M
  unfold dln nwA
  rw [nwX_0 _ (nn_p M), if_neg (by omega), if_pos rfl]
theorem nwA_sz : szM (nwA c len s M) = szM M + s := by
  have := nn_p M
  unfold szM nwA
  rw [nwX_0 _ (nn_p M), if_neg (by omega), if_neg (by omega), if_pos rfl]
theorem nwA_d {n : Nat} (h : n ≠ nn M) (h1 : 0 < n) : dsc (nwA c len s M) n = dsc M n ∧ dln (nwA c len s M) n = dln M n := by
  constructor
  · unfold dsc
    rw [nwA_R0 (by omega) (by omega) (by omega)]
  · unfold dln
    rw [nwA_R0 (by omega) (by omega) (by omega)]
theorem nwA_q {n : Nat} (h : n ≠ nn M) (h1 : 0 < n) : shq (nwA c len s M) n = shq M n ∧ slq (nwA c len s M) n = slq M n := by
  obtain ⟨a, b⟩ := nwA_d (c := c) (len := len) (s := s) h h1
  unfold shq slq
  rw [a, b]
  exact ⟨rfl, rfl⟩
end DYN
