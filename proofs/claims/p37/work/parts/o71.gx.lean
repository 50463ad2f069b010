/-! CELLS AND SLOTS ONLY GROW, codes and lengths stay -/
def GX (M M1 : Mem) : Prop := M.2.2.2 ≤ M1.2.2.2 ∧ szM M ≤ szM M1 ∧ ∀ n, 1000 ≤ n → n - 753 < M.2.2.2 → dsc M1 n = dsc M n ∧ dln M1 n = dln M n
theorem GX.refl (M : Mem) : GX M M := ⟨Nat.le_refl _, Nat.le_refl _, fun _ _ _ => ⟨rfl, rfl⟩⟩
theorem GX.tr {A B C : Mem} (h : GX A B) (h' : GX B C) : GX A C := ⟨Nat.le_trans h.1 h'.1, Nat.le_trans h.2.1 h'.2.1, fun n h1 h2 => by
  obtain ⟨a, b⟩ := h.2.2 n h1 h2
  obtain ⟨c, d⟩ := h'.2.2 n h1 (Nat.lt_of_lt_of_le h2 h.1)
  exact ⟨c.trans a, d.trans b⟩⟩
theorem EQ.gx {M M1 : Mem} (h : EQ M M1) : GX M M1 := ⟨Nat.le_of_eq h.1.symm, Nat.le_of_eq h.sz.symm, fun n _ _ => ⟨congrFun h.2 _, congrFun h.2 _⟩⟩
theorem GX_nw (c len s : Nat) (M : Mem) : GX M (nwA c len s M) := ⟨(GE_nw c len s M).1, (GE_nw c len s M).2, fun n h1 h2 => nwA_d (by unfold nn; omega) (by omega)⟩
theorem GX_cl (n c len s : Nat) (M : Mem) : GX M (cpRow n (nn M) (nwA c len s M)) := (GX_nw c len s M).tr (EQ_cpRow _ _ _).gx
theorem GX.dl {M M1 : Mem} (h : GX M M1) {n c len : Nat} (d : dyo M n c) (e : dln M n = len) : dln M1 n = len := (h.2.2 n d.1 d.2.2).2.trans e
theorem GX.dyo {M M1 : Mem} (h : GX M M1) {n c : Nat} (d : dyo M n c) : dyo M1 n c := ⟨d.1, (h.2.2 n d.1 d.2.2).1.trans d.2.1, Nat.lt_of_lt_of_le d.2.2 h.1⟩
theorem EQ_sI (M : Mem) {M' : Mem} {n k : Nat} {x : Int32} (e : M' = setI M n k x) : EQ M M' := by rw [e]; exact EQ_I _ _ _ _
theorem EQ_sL (M : Mem) {M' : Mem} {n k : Nat} {x : Int64} (e : M' = setL M n k x) : EQ M M' := by rw [e]; exact EQ_L _ _ _ _
theorem EQ_sR (M : Mem) {M' : Mem} {n k x : Nat} (h : 0 ≠ n) (e : M' = setR M n k x) : EQ M M' := by rw [e]; exact EQ_R _ _ _ h
