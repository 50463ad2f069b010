/-! ONLY CELLS MADE LATER CHANGE -/
def Lt (M M' : Mem) : Prop := GX M M' ∧ (∀ q, q < 1000 → M'.1 q = M.1 q) ∧ ∀ q, 0 < q → q < 1000 → M'.2.2.1 q = M.2.2.1 q
theorem Lt.refl (M : Mem) : Lt M M := ⟨GX.refl M, fun _ _ => rfl, fun _ _ _ => rfl⟩
theorem Lt.tr {A B C : Mem} (h : Lt A B) (h' : Lt B C) : Lt A C := ⟨h.1.tr h'.1, fun q z => (h'.2.1 q z).trans (h.2.1 q z), fun q z1 z2 => (h'.2.2 q z1 z2).trans (h.2.2 q z1 z2)⟩
theorem Lt.low {M M' : Mem} (h : Lt M M') : Low M M' := fun a k _ h2 _ _ _ _ => by rw [h.2.1 a (by omega)]
theorem Lt.tld {M M' : Mem} (h : Lt M M') : tld M' = tld M := congrFun (h.2.2 64 (by omega) (by omega)) 2
theorem HB.lt {M M' : Mem} (h : HB M) (l : Lt M M') : HB M' := by
  have tc := (tt_c h.1.1).2.1
  have tc2 := (tt_c h.1.1).2.2
  unfold HB
  rw [l.tld]
  exact Low.hb h l.low (fun a _ h2 => l.2.1 a (by omega))
theorem RT.lt {M M' : Mem} (h : RT M) (l : Lt M M') : RT M' := by
  unfold RT
  rw [l.2.1 64 (by omega), l.2.1 311 (by omega), l.2.1 65 (by omega), l.2.1 312 (by omega), l.2.1 226 (by omega), l.2.1 345 (by omega), l.2.2 64 (by omega) (by omega)]
  exact h
theorem Inv.lt {M M' : Mem} (h : Inv M) (l : Lt M M') : Inv M' :=
  h.low l.low (congrFun (l.2.2 64 (by omega) (by omega)) 2) (fun a _ h2 => l.2.1 a (by
    have tc2 := (tt_c h.1.1.1).2.2
    have tc := (tt_c h.1.1.1).2.1
    omega)) (fun a h2 => l.2.1 a (by omega)) (by rw [l.2.1 64 (by omega), l.2.1 311 (by omega)]; exact ⟨rfl, rfl, rfl⟩) (h.2.2.2.2.lt l)
theorem TolS.lt {sm : Nat → Nat → Nat} {M M' : Mem} (h : TolS sm M) (l : Lt M M') : TolS sm M' := h.cong (fun a _ h2 => l.2.1 a (by omega))
theorem lt_I {M : Mem} {n k : Nat} {x : Int32} (h : 1000 ≤ n) : Lt M (setI M n k x) := ⟨(EQ_I M n k x).gx, fun q z => funext (fun j => setI_n (Or.inl (by omega))), fun _ _ _ => rfl⟩
theorem lt_R {M : Mem} {n k x : Nat} (h : 1000 ≤ n) : Lt M (setR M n k x) := ⟨(EQ_R M k x (by omega)).gx, fun _ _ => rfl, fun q _ z => m2_ne (by omega)⟩
theorem lt_nw {M : Mem} {c len s : Nat} (h : 247 ≤ M.2.2.2) : Lt M (nwA c len s M) := by
  obtain ⟨-, g⟩ := nn_r h
  exact ⟨GX_nw c len s M, fun q z => nwA_I (by omega), fun q z1 z2 => nwA_R (by omega) (by omega)⟩
theorem lt_cpRow {M : Mem} {a b : Nat} (h : 1000 ≤ b) : Lt M (cpRow a b M) := ⟨(EQ_cpRow a b M).gx, fun q z => cpRow_n (by omega), fun _ _ _ => rfl⟩
theorem lt_cpK {M : Mem} {f : Nat → Int32} {b sp dp n : Nat} (h : 1000 ≤ b) : Lt M (cpK f b sp dp n M) := ⟨(EQ_cpK f b sp dp n M).gx, fun q z => cpK_n (by omega), fun _ _ _ => rfl⟩
theorem lt_cpG {M : Mem} {a b sp dp n : Nat} (h : 1000 ≤ b) : Lt M (cpG M a b sp dp n) := ⟨(EQ_cpG M a b sp dp n).gx, fun q z => if_neg (by omega), fun _ _ _ => rfl⟩
/-- how much is made -/
def Mk (M M' : Mem) (c s : Nat) : Prop := M'.2.2.2 ≤ M.2.2.2 + c ∧ szM M' ≤ szM M + s
theorem Mk.tr {A B C : Mem} {c s c' s' : Nat} (h : Mk A B c s) (h' : Mk B C c' s') : Mk A C (c + c') (s + s') := ⟨by have := h.1; have := h'.1; omega, by have := h.2; have := h'.2; omega⟩
theorem Mk.le {A B : Mem} {c s c' s' : Nat} (h : Mk A B c s) (h1 : c ≤ c') (h2 : s ≤ s') : Mk A B c' s' := ⟨by have := h.1; omega, by have := h.2; omega⟩
theorem EQ.mk {A B : Mem} (h : EQ A B) : Mk A B 0 0 := ⟨Nat.le_of_eq h.1, Nat.le_of_eq h.sz⟩
theorem mk_nw (c len s : Nat) (M : Mem) : Mk M (nwA c len s M) 1 s := ⟨Nat.le_of_eq nwA_cn, Nat.le_of_eq nwA_sz⟩
theorem dyo_nw {M : Mem} (c len s : Nat) (h : 247 ≤ M.2.2.2) : dyo (nwA c len s M) (nn M) c ∧ dln (nwA c len s M) (nn M) = len := by
  obtain ⟨-, g⟩ := nn_r h
  refine ⟨⟨g, nwA_ds, ?_⟩, nwA_dl⟩
  rw [nwA_cn]
  unfold nn
  omega
theorem dyo.ne {M : Mem} {n c : Nat} (d : dyo M n c) : n ≠ nn M := by
  have h1 := d.2.2
  have h2 := d.1
  unfold nn
  omega
theorem EQ.dyo {M M' : Mem} (q : EQ M M') {n c : Nat} (d : dyo M n c) : dyo M' n c := q.gx.dyo d
theorem EQ.dlq {M M' : Mem} (q : EQ M M') (n : Nat) : dln M' n = dln M n := congrFun q.2 _
