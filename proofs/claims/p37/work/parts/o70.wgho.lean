/-! THE WALK DOESN'T SEE GHOST ROWS -/
theorem ent_gho {K : Kt} {M M' : Mem} (g : Gho M M') {q : Nat} (hq : Rl q) : ent K M' q = ent K M q := by
  obtain ⟨g1, g2, g3⟩ := g
  have ho : q < 311 ∨ 346 < q := by unfold Rl at hq; omega
  have e : M'.2.2.1 = M.2.2.1 := by rw [g1]
  refine ent_cg ?_ ?_ (funext (fun k => g2 q k ho)) (funext (fun k => g3 q k ho)) (by rw [e])
  · unfold shq dsc
    rw [e]
  · unfold slq dln
    rw [e]
theorem wd_gho {K : Kt} {M M' : Mem} (g : Gho M M') : wd K M' = wd K M := by
  unfold wd
  rw [g.1]
  exact List.map_congr_left (fun k _ => by rw [ent_gho g (pa_r k)])
section WG
variable {K : Kt} {X : Xt} {Q : State → Prop} {ce sl : Nat} {M M' : Mem} {pc : Nat} {L : List (Nat × Lv)} {st : List Lv}
theorem Wt.gho (g : Gho M M') (k : Wt K X Q ce sl M' pc L st) : Wt K X Q ce sl M pc L st := by
  intro cp H locs ls a b z dd
  have e1 : M'.2.2.2 = M.2.2.2 := by rw [g.1]
  have e2 : M'.2.2.1 = M.2.2.1 := by rw [g.1]
  refine k (fun hp => ?_) H locs ls (by rw [wd_gho g]; exact a) b (by rw [e1]; exact z) dd
  rw [e1, e2]
  exact cp hp
theorem Wt.cs {ce' sl' : Nat} (h1 : ce = ce') (h2 : sl = sl') (k : Wt K X Q ce' sl' M pc L st) : Wt K X Q ce sl M pc L st := by
  subst h1
  subst h2
  exact k
end WG
/-- cells and slots only grow -/
def GE (M M1 : Mem) : Prop := M.2.2.2 ≤ M1.2.2.2 ∧ szM M ≤ szM M1
theorem GE.refl (M : Mem) : GE M M := ⟨Nat.le_refl _, Nat.le_refl _⟩
theorem GE.tr {A B C : Mem} (h : GE A B) (h' : GE B C) : GE A C := ⟨Nat.le_trans h.1 h'.1, Nat.le_trans h.2 h'.2⟩
theorem EQ.sz {M M1 : Mem} (h : EQ M M1) : szM M1 = szM M := congrFun h.2 1
theorem EQ.ge {M M1 : Mem} (h : EQ M M1) : GE M M1 := ⟨Nat.le_of_eq h.1.symm, Nat.le_of_eq h.sz.symm⟩
theorem GE_nw (c len s : Nat) (M : Mem) : GE M (nwA c len s M) := ⟨by rw [nwA_cn]; exact Nat.le_succ _, by rw [nwA_sz]; exact Nat.le_add_right _ _⟩
theorem EQ_cpRow (n m : Nat) (M : Mem) : EQ M (cpRow n m M) := ⟨rfl, rfl⟩
theorem EQ_cpK (f : Nat → Int32) (b sp dp n : Nat) (M : Mem) : EQ M (cpK f b sp dp n M) := ⟨rfl, rfl⟩
theorem EQ_cpG (M : Mem) (a b sp dp n : Nat) : EQ M (cpG M a b sp dp n) := ⟨rfl, rfl⟩
